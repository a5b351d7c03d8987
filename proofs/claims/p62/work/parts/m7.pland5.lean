/-! A PLAN DRAWN FROM THE SCRIPT: its stories, one after another; its standbys -/
section PlanS2
variable {S : St} {L0 K K' : List PC} {P : PA} {U U0 : Vw} {t t0 : Nat} {tx0 : List Int}
theorem l_pl456 {sc : SC} {a2 x A : Int} (hsc : (nI sc.2).toInt = (sc.2 : Int)) (hG0 : Good U0) (ht0 : tm U0 = 0) (ha : 0 ≤ a2 ∧ a2 ≤ 5000) (hx : 0 ≤ x ∧ x < 2147483648) (hA : A = x / 80000 % 4) : ∀ (n N : Nat) (k : Int) (K : List PC) (P : PA) (t : Nat) (ss : List Stm) (M : Nat), k + n = A → 0 ≤ k → n < N → BI L0 K P t0 t U0 tx0 ss M → ((xS P).length : Int) = k → M + 15 * n ≤ 700 → K.length + 740 * n < 200000000 →
    Ok (lp (fun go q => lb2_Law_plan_456 sc t0 a2 x go q.1 q.2.1 q.2.2.1 q.2.2.2) N (Value.ref t, k, (S, K))) (60 * n) (plT 15 n M + 74 * n) (fun v => ∃ K' t' P' ss', v = (Value.ref t', (S, K')) ∧ BI L0 K' P' t0 t' U0 tx0 (ss ++ ss') (M + 15 * n) ∧ (xA P' = xA P ∧ pB P' = pB P ∧ (xS P').length = (xS P).length + n) ∧ K'.length ≤ K.length + 740 * n ∧ NP ss')
  | 0, N + 1, k, K, P, t, ss, M, hk, h0, _, h, hl, hM, hK => by
    rw [lp_succ]
    show Ok (lb2_Law_plan_456 sc t0 a2 x _ (Value.ref t) k S K) _ _ _
    unfold lb2_Law_plan_456
    rw [nm_x, Int.tdiv_eq_ediv_of_nonneg hx.1, wr_s (z := x / 80000) (by omega) (by omega), nm_x, Int.tmod_eq_emod_of_nonneg (by omega), wr_s (z := x / 80000 % 4) (by omega) (by omega), if_pos (by omega)]
    exact Ok.ret ⟨K, t, P, [], rfl, by rw [List.append_nil]; exact h, ⟨rfl, rfl, rfl⟩, Nat.le_refl _, NP_nil⟩
  | n + 1, N + 1, k, K, P, t, ss, M, hk, h0, hN, h, hl, hM, hK => by
    have hn := h.1.1.2.1.2.1
    have ple : plT 15 (n + 1) M = 5 * M + 90 + plT 15 n (M + 15) := rfl
    obtain ⟨ep, p0, p1⟩ := pk_ok hsc (k := a2 + 20 + k) (by omega) S K
    obtain ⟨y, hy⟩ : ∃ y, y = pkv sc (a2 + 20 + k) := ⟨_, rfl⟩
    rw [← hy] at ep p0 p1
    have td : ∀ z : Int, y.tdiv z = y / z := fun z => Int.tdiv_eq_ediv_of_nonneg p0
    have tm_ : ∀ a z : Int, 0 ≤ a → a.tmod z = a % z := fun a z ha => Int.tmod_eq_emod_of_nonneg ha
    have n0 := N1.of (L := K) (c := (11, dfl 11)) (by omega)
    obtain ⟨L1, e1, w1⟩ := pf_s n0.at (f := 0) (Nat.le_of_ble_eq_true rfl) (V (1 + y % 4))
    have nn := n0.w w1
    rw [lp_succ]
    show Ok (lb2_Law_plan_456 sc t0 a2 x _ (Value.ref t) k S K) _ _ _
    obtain ⟨gg, hgg⟩ : ∃ gg, gg = lp (fun go q => lb2_Law_plan_456 sc t0 a2 x go q.1 q.2.1 q.2.2.1 q.2.2.2) N := ⟨_, rfl⟩
    rw [← hgg]
    have fin : ∀ c : Int, c = 0 ∨ c = 1 → Ok (jf2_Law_plan_517_456 sc t0 a2 x gg (Value.ref t) k y (nCell + K.length) c (nCell + K.length) S L1) (60 * (n + 1) - 1) (plT 15 (n + 1) M + 74 * (n + 1) - 7) (fun v => ∃ K' t' P' ss', v = (Value.ref t', (S, K')) ∧ BI L0 K' P' t0 t' U0 tx0 (ss ++ ss') (M + 15 * (n + 1)) ∧ (xA P' = xA P ∧ pB P' = pB P ∧ (xS P').length = (xS P).length + (n + 1)) ∧ K'.length ≤ K.length + 740 * (n + 1) ∧ NP ss') := fun c hc =>
      (l_pl517 (sc := sc) (a2 := a2) (a3 := x) (C := 60 * n) (T := plT 15 n (M + 15) + 74 * n) hG0 ht0 h (by omega) (by omega) nn ⟨p0, p1⟩ (by omega) hc (by omega) (by omega) (fun K' t' P' st y1 y2 y3 y4 y5 y6 => by
        rw [hgg]
        refine (l_pl456 hsc hG0 ht0 ha hx hA n N (k + 1) K' P' t' (ss ++ [st]) (M + 15) (by omega) (by omega) (by omega) y1 (by omega) (by omega) (by omega)).mono (Nat.le_refl _) (Nat.le_refl _) (fun v z => ?_)
        obtain ⟨K2, t2, P2, ss', z1, z2, ⟨z3, z4, z5⟩, z6, z9⟩ := z
        refine ⟨K2, t2, P2, [st] ++ ss', z1, ?_, ⟨z3.trans y2, z4.trans y3, by omega⟩, by omega, NP_c y6 z9⟩
        rw [← List.append_assoc]
        exact z2.up (by omega))).mono (by omega) (by omega) (fun _ q => q)
    unfold lb2_Law_plan_456
    rw [nm_x, Int.tdiv_eq_ediv_of_nonneg hx.1, wr_s (z := x / 80000) (by omega) (by omega), nm_x, tm_ (x / 80000) 4 (by omega), wr_s (z := x / 80000 % 4) (by omega) (by omega), if_neg (by omega), nm_x, wr_s (z := a2 + 20 + k) (by omega) (by omega), ep, bnO_s, if_pos (by omega), nw_x]
    refine Ok.ad (c := 1) (s := 7) (by omega) (by omega) ?_
    rw [show gn_LI_init (nCell + K.length) S (K ++ [(11, dfl 11)]) = some () from rfl, bnO_s, nm_x, tm_ y 4 p0, wr_s (z := 1 + y % 4) (by omega) (by omega), e1, bnO_s, nm_x, td 4, wr_s (z := y / 4) (by omega) (by omega), nm_x, tm_ (y / 4) 5 (by omega), wr_s (z := y / 4 % 5) (by omega) (by omega)]
    by_cases d0 : y / 4 % 5 = 0
    · rw [if_pos d0]
      exact fin 1 (.inr rfl)
    · rw [if_neg d0]
      exact fin 0 (.inl rfl)
theorem nwB_v (hV : Val U) {F : Nat → Int} : (sbV (nwB U F) (nB U).toNat = itV (F 12) 0 0 0 0 (F 13) 0) ∧ (∀ i : Nat, (i : Int) < nB U → sbV (nwB U F) i = sbV U i) ∧ (∀ i, adV (nwB U F) i = adV U i) ∧ (∀ i, stV (nwB U F) i = stV U i) ∧ lo_ (nwB U F) = lo_ U ∧ ∀ k i : Nat, 14 ≤ k → k < 17 → nwB U F k i = U k i := by
  have b := hV.z
  have en : (((nB U).toNat : Nat) : Int) = nB U := by omega
  refine ⟨?_, fun i hi => ?_, fun i => ?_, fun i => ?_, nwV_lo (by decide) (by decide), fun k i h1 h2 => nwV_k (by omega) (fun q => by omega)⟩
  · unfold sbV nwB
    rw [nwV_y (lo := 12) (hi := 14) (k := 12) (by decide) en, nwV_y (lo := 12) (hi := 14) (k := 13) (by decide) en]
  · unfold sbV nwB
    rw [nwV_k (k := 12) (by decide) (fun _ => by omega), nwV_k (k := 13) (by decide) (fun _ => by omega)]
  · unfold adV nwB
    rw [nwV_k (k := 0) (by decide) (fun q => by omega), nwV_k (k := 1) (by decide) (fun q => by omega), nwV_k (k := 3) (by decide) (fun q => by omega), nwV_k (k := 4) (by decide) (fun q => by omega), nwV_k (k := 5) (by decide) (fun q => by omega), nwV_k (k := 6) (by decide) (fun q => by omega), nwV_k (k := 2) (by decide) (fun q => by omega)]
  · unfold stV nwB
    rw [nwV_k (k := 7) (by decide) (fun q => by omega), nwV_k (k := 9) (by decide) (fun q => by omega), nwV_k (k := 10) (by decide) (fun q => by omega), nwV_k (k := 11) (by decide) (fun q => by omega), nwV_k (k := 8) (by decide) (fun q => by omega)]
theorem fp_aB {r : Nat} {m : Int} {cp x : Nat} (hr : r = (pB P).2.1 ∨ r = nCell + K'.length) {b : Nat} (q : fpP (aB P r m cp x) b) : fpP P b ∨ b = nCell + K'.length ∨ b = x := by
  rcases q with q | q | q | q | q | q | q | q
  · exact .inl (.inl q)
  · exact .inl (.inr (.inl q))
  · exact .inl (.inr (.inr (.inl q)))
  · rcases q with q | q
    · exact .inl (.inr (.inr (.inr (.inl (.inl q)))))
    · rcases hr with e' | e'
      · exact .inl (.inr (.inr (.inr (.inl (.inr (Eq.trans q e'))))))
      · exact .inr (.inl (Eq.trans q e'))
  · exact .inl (.inr (.inr (.inr (.inr (.inl q)))))
  · exact .inl (.inr (.inr (.inr (.inr (.inr (.inl q))))))
  · exact .inl (.inr (.inr (.inr (.inr (.inr (.inr (.inl q)))))))
  · have q : b ∈ xB P ++ [x] := q
    rcases List.mem_append.mp q with q | q
    · exact .inl (.inr (.inr (.inr (.inr (.inr (.inr (.inr q)))))))
    · exact .inr (.inr (List.mem_singleton.mp q))
theorem it_newB {s : Int} : (dfl 11).set 0 (V s) = itV s 0 0 0 0 0 0 := rfl
theorem txl_sb {s : Int} (i1 : s < 10) : (txS (sSb s)).length ≤ 10 := by
  obtain ⟨q13, q14, q15, q16, q17, q18, q19, q20, q21, q22, q23⟩ := litLen
  have d1 := dg1 i1
  show (litB 20 ++ dg s ++ litB 15).length ≤ 10
  simp only [List.length_append]
  omega
end PlanS2
