/-! A PLAN DRAWN FROM THE SCRIPT: its closings, its ads put -/
section PlanC
variable {S : St} {L0 K K' : List PC} {P : PA} {U U0 : Vw} {t t0 : Nat} {tx0 : List Int}
theorem txl_cl {f z : Int} (i1 : f < 10) (i2 : z < 100) : (txS (sCl f z)).length ≤ 11 := by
  obtain ⟨q13, q14, q15, q16, q17, q18, q19, q20, q21, q22, q23⟩ := litLen
  have d1 := dg1 i1
  have d2 := dg2 i2
  show (litB 21 ++ dg f ++ litB 14 ++ dg z ++ litB 15).length ≤ 11
  simp only [List.length_append]
  omega
theorem txl_pu {a p : Int} (i1 : a < 100) (i2 : p < 100) : (txS (sPu a p)).length ≤ 10 := by
  obtain ⟨q13, q14, q15, q16, q17, q18, q19, q20, q21, q22, q23⟩ := litLen
  have d1 := dg2 i1
  have d2 := dg2 i2
  show (litB 22 ++ dg a ++ litB 14 ++ dg p ++ litB 15).length ≤ 10
  simp only [List.length_append]
  omega
theorem l_pl761 {sc : SC} {a2 : Int} (hsc : (nI sc.2).toInt = (sc.2 : Int)) (hG0 : Good U0) (ht0 : tm U0 = 0) (ha : 0 ≤ a2 ∧ a2 ≤ 5000) : ∀ (n N : Nat) (k : Int) (K : List PC) (t : Nat) (ss : List Stm) (M : Nat), k + n = 3 → 0 ≤ k → n < N → BI L0 K P t0 t U0 tx0 ss M → M + 11 * n ≤ 700 → K.length + 720 * n < 200000000 →
    Ok (lp (fun go q => lb2_Law_plan_761 sc t0 a2 go q.1 q.2.1 q.2.2.1 q.2.2.2) N (Value.ref t, k, (S, K))) (60 * n) (plT 11 n M) (fun v => ∃ K' t' ss', v = (Value.ref t', (S, K')) ∧ BI L0 K' P t0 t' U0 tx0 (ss ++ ss') (M + 11 * n) ∧ K'.length ≤ K.length + 720 * n ∧ NP ss')
  | 0, N + 1, k, K, t, ss, M, hk, h0, _, h, hM, hK => by
    rw [lp_succ]
    show Ok (lb2_Law_plan_761 sc t0 a2 _ (Value.ref t) k S K) _ _ _
    unfold lb2_Law_plan_761
    rw [if_pos (by omega)]
    exact Ok.ret ⟨K, t, [], rfl, by rw [List.append_nil]; exact h, Nat.le_refl _, NP_nil⟩
  | n + 1, N + 1, k, K, t, ss, M, hk, h0, hN, h, hM, hK => by
    have hG := (GoodL hG0 ht0 h.1.2.1).1
    have hV := hG.1
    have bz := hV.z
    have hT := h.1.2.2
    have efr : frm (apL U0 ss) = 2 * sg (apL U0 ss) := rfl
    have ple : plT 11 (n + 1) M = 5 * M + 90 + plT 11 n (M + 11) := rfl
    have pl := plT_le (d := 11) (n := n) (m := M)
    obtain ⟨ep, p0, p1⟩ := pk_ok hsc (k := a2 + 31 + k) (by omega) S K
    obtain ⟨y, hy⟩ : ∃ y, y = pkv sc (a2 + 31 + k) := ⟨_, rfl⟩
    rw [← hy] at ep p0 p1
    have td : ∀ z : Int, y.tdiv z = y / z := fun z => Int.tdiv_eq_ediv_of_nonneg p0
    have tm_ : ∀ a z : Int, 0 ≤ a → a.tmod z = a % z := fun a z ha => Int.tmod_eq_emod_of_nonneg ha
    have i1 : wr (k + 1) = k + 1 := wr_s (by omega) (by omega)
    rw [lp_succ]
    show Ok (lb2_Law_plan_761 sc t0 a2 _ (Value.ref t) k S K) _ _ _
    obtain ⟨gg, hgg⟩ : ∃ gg, gg = lp (fun go q => lb2_Law_plan_761 sc t0 a2 go q.1 q.2.1 q.2.2.1 q.2.2.2) N := ⟨_, rfl⟩
    rw [← hgg]
    unfold lb2_Law_plan_761
    rw [if_neg (by omega), nm_x, wr_s (z := a2 + 31 + k) (by omega) (by omega), ep, bnO_s, nm_x, tm_ y 3 p0, wr_s (z := y % 3) (by omega) (by omega)]
    by_cases c : y % 3 = 0
    · rw [if_pos c, nm_x, i1, hgg]
      refine (l_pl761 hsc hG0 ht0 ha n N (k + 1) K t ss M (by omega) (by omega) (by omega) h (by omega) (by omega)).mono (by omega) (by omega) (fun v z => ?_)
      obtain ⟨K', t', ss', z1, z2, z3, z9⟩ := z
      exact ⟨K', t', ss', z1, z2.up (by omega), by omega, z9⟩
    · obtain ⟨f, hf⟩ : ∃ f, f = y / 3 % (2 * sg (apL U0 ss)) := ⟨_, rfl⟩
      have fb : 0 ≤ f ∧ f < 2 * sg (apL U0 ss) := by
        rw [hf]
        exact ⟨Int.emod_nonneg _ (by omega), Int.emod_lt_of_pos _ (by omega)⟩
      obtain ⟨z, hz⟩ : ∃ z, z = 1 + y / 24 % 30 := ⟨_, rfl⟩
      have zb : 1 ≤ z ∧ z ≤ 30 := by omega
      obtain ⟨K1, e1, h1, s1, l1⟩ := h.1.1.setK (f := f) ⟨fb.1, by omega⟩ (z := z)
      have ht1 := h.2.1.1.fp h.1.1 s1
      have fK := h.1.1.fK
      have gg0 := h.1.1.gg hV
      rw [hT] at fK gg0
      have q3 : wr ((y / 3).tmod (2 * sg (apL U0 ss))) = f := by rw [tm_ (y / 3) _ (by omega), ← hf]; exact wr_s (by omega) (by omega)
      have q5 : wr (1 + (y / 24).tmod 30) = z := by rw [tm_ (y / 24) _ (by omega), ← hz]; exact wr_s (by omega) (by omega)
      have q1 : wr (2 * sg (apL U0 ss)) = 2 * sg (apL U0 ss) := wr_s (by omega) (by omega)
      have q2 : wr (y.tdiv 3) = y / 3 := by rw [td 3]; exact wr_s (by omega) (by omega)
      have q4 : wr (y.tdiv 24) = y / 24 := by rw [td 24]; exact wr_s (by omega) (by omega)
      have tc := tx_cost (N := M + 11) (m := M) (d := 11) rfl (by decide) (by omega)
      have hbl := h.2.1.2
      have hs : OkS (apL U0 ss) (sCl f z) := ⟨⟨fb.1, by rw [efr]; exact fb.2⟩, zb⟩
      have hV1 : Val (up (apL U0 ss) 16 f.toNat z) := (GoodS (s := sCl f z) hG (GoodL hG0 ht0 h.1.2.1).2 hs).1.1
      have sgu : sg (up (apL U0 ss) 16 f.toNat z) = sg (apL U0 ss) := sg_up (by decide)
      have pT1 : pT P = t0 := hT
      have tx := tx_cl (S := S) (P := P) (W := up (apL U0 ss) 16 f.toNat z) (y := y) (m2 := 2 * sg (apL U0 ss)) (y3 := y / 3) (y24 := y / 24) (f := f) (z := z) (N := M + 11) (C := 60 * n) (T := plT 11 n (M + 11)) (β := Value × LZ) (R := fun v => ∃ K' t' ss', v = (Value.ref t', (S, K')) ∧ BI L0 K' P t0 t' U0 tx0 (ss ++ ss') (M + 11 * (n + 1)) ∧ K'.length ≤ K.length + 720 * (n + 1) ∧ NP ss') (kk := fun p379 => nm (wr (k + 1)) fun v381 => gg (p379.1.1, v381, (p379.1.2.1, p379.1.2.2))) ht1 rfl h1 hV1 (by rw [sgu]; exact q1) q2 (by omega) q3 q4 q5 (by omega) (by omega) (dg1 (by omega)) (dg2 (by omega)) (by omega) (by omega) (by omega) (fun t' K' u v y1 y2 y3 y4 => by
        have h2 := h.step (s := sCl f z) (d := 11) hs h1 rfl s1 (fun b q => .inl q) h.2.2.2 y3 y1 (txl_cl (by omega) (by omega))
        rw [nm_x, i1, hgg]
        refine (l_pl761 hsc hG0 ht0 ha n N (k + 1) K' t' (ss ++ [sCl f z]) (M + 11) (by omega) (by omega) (by omega) h2 (by omega) (by omega)).mono (Nat.le_refl _) (Nat.le_refl _) (fun v z => ?_)
        obtain ⟨K2, t2, ss', z1, z2, z3, z9⟩ := z
        refine ⟨K2, t2, [sCl f z] ++ ss', z1, ?_, by omega, NP_c (show (4 : Nat) ≠ 5 from by decide) z9⟩
        rw [← List.append_assoc]
        exact z2.up (by omega))
      rw [pT1, q2, q4] at tx
      rw [if_neg c, fK, bnO_s, gg0, bnO_s, nm_x, q1, nm_x, q2, if_pos (by omega), nm_x, q4, nm_x, q5, nm_x, q3, rfB_r, e1, bnO_s]
      exact tx.mono (by omega) (by omega) (fun _ q => q)
end PlanC
