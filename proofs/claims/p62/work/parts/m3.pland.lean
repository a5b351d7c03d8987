/-! A PLAN DRAWN FROM THE SCRIPT: what holds while it is made; its colors -/
def BI (L0 K : List PC) (P : PA) (t0 t : Nat) (U0 : Vw) (tx0 : List Int) (ss : List Stm) (M : Nat) : Prop := (HP K P (apL U0 ss) ∧ OkL U0 ss ∧ pT P = t0) ∧ (StH K t (tx0 ++ txL ss) ∧ (tx0 ++ txL ss).length ≤ M) ∧ (Sf F0_ L0 K ∧ ∀ b, fpP P b → nCell + L0.length ≤ b) ∧ ((pS P).2.1 < XB → (pS P).2.1 ≠ (pB P).2.1)
section PlanD
variable {S : St} {L0 K K' : List PC} {P : PA} {U U0 : Vw} {t t0 : Nat} {tx0 : List Int}
theorem apS_n {s : Stm} : sg (apS U s) = sg U ∧ pe (apS U s) = pe U := by
  obtain ⟨k, a1, a2, a3, a4, a5, a6⟩ := s
  match k with
  | 0 => exact ⟨sg_up (by decide), pe_up (by decide)⟩
  | 1 => exact ⟨nwA_n.2.2.2.1, nwA_n.2.2.2.2.1⟩
  | 2 => exact ⟨nwS_n.2.2.2.1, nwS_n.2.2.2.2.1⟩
  | 3 => exact ⟨nwB_n.2.2.2.1, nwB_n.2.2.2.2.1⟩
  | 4 => exact ⟨sg_up (by decide), pe_up (by decide)⟩
  | 5 => exact ⟨sg_up (by decide), pe_up (by decide)⟩
  | n + 6 => exact ⟨rfl, rfl⟩
theorem apL_n : ∀ {ss : List Stm} {U : Vw}, sg (apL U ss) = sg U ∧ pe (apL U ss) = pe U
  | [], _ => ⟨rfl, rfl⟩
  | s :: ss, U => by
    have q := apL_n (ss := ss) (U := apS U s)
    have r := apS_n (U := U) (s := s)
    exact ⟨q.1.trans r.1, q.2.trans r.2⟩
theorem fp_cls (h : HC0 K P U) {b k : Nat} {vs : List Value} (hb : fpP P b) (hx : hp K b = some (k, vs)) : k ≠ 16 ∧ k ≠ 101 := by
  have one : ∀ {k' : Nat} {vs' : List Value}, hp K b = some (k', vs') → (k' ≠ 16 ∧ k' ≠ 101) → k ≠ 16 ∧ k ≠ 101 := fun e q => by
    rw [hx] at e
    have e2 : k = _ := congrArg Prod.fst (Option.some.inj e)
    rw [e2]; exact q
  have ls : ∀ A : LA, LsA K A → (b = A.1 ∨ b = A.2.1) → k ≠ 16 ∧ k ≠ 101 := fun A hA hq => by
    rcases hq with rfl | rfl
    · exact one hA.2.1 (by decide)
    · rcases hA.2.2 with ⟨e, _⟩ | ⟨vs', q, _⟩
      · have := (hp_bd hx).2.1; omega
      · exact one q (by decide)
  obtain ⟨h1, ⟨h2, h3, h4⟩, h5, h6, h7, ⟨v1, h8, _⟩, ⟨v2, h9, _⟩, ⟨v3, h10, _⟩⟩ := h
  have im : ∀ (xs : List Nat) (f : Nat → List Value), (∀ (i x : Nat), xs[i]? = some x → hp K x = some (11, f i)) → b ∈ xs → k ≠ 16 ∧ k ≠ 101 := fun xs f hf hm => by
    obtain ⟨i, hi⟩ := List.mem_iff_getElem?.mp hm
    exact one (hf i b hi) (by decide)
  rcases hb with rfl | hb | hb | hb | hb | hb | hb | hb
  · exact one h1 (by decide)
  · exact ls _ h2 hb
  · exact ls _ h3 hb
  · exact ls _ h4 hb
  · rcases hb with rfl | rfl | rfl
    · exact one h8 (by decide)
    · exact one h9 (by decide)
    · exact one h10 (by decide)
  · exact im _ _ h5 hb
  · exact im _ _ h6 hb
  · exact im _ _ h7 hb
/-- a text is none of a plan's cells -/
theorem StH.fp {bs : List Int} (ht : StH K t bs) (h : HP K P U) (hs : Sf (fpP P) K K') : StH K' t bs := by
  obtain ⟨h0, r, vs, h1, h2, h3, ws, ⟨g1, g2, g3⟩, g4⟩ := ht
  have lkk : ∀ {x k : Nat} {qs : List Value}, lk K x = some (k, qs) → (k = 16 ∨ k = 101) → lk K' x = some (k, qs) := fun {x k qs} hq hn => by
    unfold lk at hq ⊢
    by_cases y : x < XB
    · rw [if_pos y] at hq ⊢
      exact hs.at hq (fun z => by have := fp_cls h.1 z hq; omega)
    · rw [if_neg y] at hq ⊢
      exact hq
  refine ⟨h0, r, vs, lkk h1 (.inl rfl), h2, h3, ws, ⟨lkk g1 (.inr rfl), ?_, g3⟩, g4⟩
  unfold rowB at g2 ⊢
  by_cases y : r < XB
  · rw [if_pos y] at g2 ⊢
    have q := lkk g1 (.inr rfl)
    unfold lk at q g1
    rw [if_pos y] at q g1
    rw [q]
    rw [g1] at g2
    exact g2
  · rw [if_neg y] at g2 ⊢
    exact g2
/-- what a text of N bytes costs at most -/
theorem tx_cost {N m d : Nat} (h : N = m + d) (hd : d ≤ 18) (h7 : N ≤ 718) : 2 + (psi N 16 + 2) ≤ 48 ∧ 20 + (phi N 16 + (4 + N)) ≤ 5 * m + 82 := by
  unfold psi phi
  split <;> omega
theorem BI.step {ss : List Stm} {s : Stm} {M d : Nat} {P' : PA} {K2 : List PC} {t2 : Nat} (h : BI L0 K P t0 t U0 tx0 ss M) (hs : OkS (apL U0 ss) s) (h1 : HP K' P' (apS (apL U0 ss) s)) (hp : pT P' = pT P) (hf : Sf (fpP P) K K') (hb : ∀ b, fpP P' b → fpP P b ∨ nCell + K.length ≤ b) (hr : (pS P').2.1 < XB → (pS P').2.1 ≠ (pB P').2.1) (hf2 : Sf F0_ K' K2) (ht : StH K2 t2 (tx0 ++ txL ss ++ txS s)) (hl : (txS s).length ≤ d) :
    BI L0 K2 P' t0 t2 U0 tx0 (ss ++ [s]) (M + d) := by
  obtain ⟨⟨b1, b2, b3⟩, ⟨b4, b5⟩, ⟨b6, b7⟩, b8⟩ := h
  have hle := b6.1
  refine ⟨⟨by rw [apL_s]; exact h1.sf0 hf2, OkL_s b2 hs, hp.trans b3⟩, ⟨by rw [txL_s, ← List.append_assoc]; exact ht, ?_⟩, ⟨(b6.tr0 hf b7).trans hf2, fun b hb' => ?_⟩, hr⟩
  · rw [txL_s, ← List.append_assoc, List.length_append]
    omega
  · rcases hb b hb' with q | q
    · exact b7 b q
    · omega
theorem BI.up {ss : List Stm} {M M' : Nat} (h : BI L0 K P t0 t U0 tx0 ss M) (hM : M ≤ M') : BI L0 K P t0 t U0 tx0 ss M' := ⟨h.1, ⟨h.2.1.1, Nat.le_trans h.2.1.2 hM⟩, h.2.2⟩
theorem txl_co {f : Int} (hf : 0 ≤ f ∧ f < 8) : (txS (sCo f)).length ≤ 9 := by
  obtain ⟨q13, q14, q15, q16, q17, q18, q19, q20, q21, q22, q23⟩ := litLen
  have d1 := dg1 (z := f) (by omega)
  show (litB 16 ++ dg f ++ litB 17).length ≤ 9
  rw [List.length_append, List.length_append]
  omega
theorem l_pl98 {sc : SC} {a2 a3 : Int} (hG0 : Good U0) (ht0 : tm U0 = 0) : ∀ (n N : Nat) (f : Int) (K : List PC) (t : Nat) (ss : List Stm) (M : Nat), f + n = frm U0 → 0 ≤ f → n < N → BI L0 K P t0 t U0 tx0 ss M → M + 9 * n ≤ 700 → K.length + 720 * n < 300000000 →
    Ok (lp (fun go q => lb2_Law_plan_98 sc t0 a2 a3 go q.1 q.2.1 q.2.2.1 q.2.2.2) N (Value.ref t, f, (S, K))) (60 * n) (plT 9 n M) (fun v => ∃ K' t' ss', v = (Value.ref t', (S, K')) ∧ BI L0 K' P t0 t' U0 tx0 (ss ++ ss') (M + 9 * n) ∧ K'.length ≤ K.length + 720 * n ∧ NP ss')
  | 0, N + 1, f, K, t, ss, M, hk, h0, _, h, hM, hK => by
    have hV := (GoodL hG0 ht0 h.1.2.1).1.1
    have gn := apL_n (ss := ss) (U := U0)
    have bz := hV.z
    have ef : frm U0 = 2 * sg U0 := rfl
    have gg := h.1.1.gg hV
    rw [h.1.2.2, gn.1] at gg
    rw [gn.1] at bz
    rw [lp_succ]
    show Ok (lb2_Law_plan_98 sc t0 a2 a3 _ (Value.ref t) f S K) _ _ _
    unfold lb2_Law_plan_98
    rw [gg, bnO_s, nm_x, wr_s (z := 2 * sg U0) (by omega) (by omega), if_pos (by omega)]
    exact Ok.ret ⟨K, t, [], rfl, by rw [List.append_nil]; exact h, Nat.le_refl _, NP_nil⟩
  | n + 1, N + 1, f, K, t, ss, M, hk, h0, hN, h, hM, hK => by
    have hV := (GoodL hG0 ht0 h.1.2.1).1.1
    have gn := apL_n (ss := ss) (U := U0)
    have bz := hV.z
    have ef : frm U0 = 2 * sg U0 := rfl
    have efL : frm (apL U0 ss) = frm U0 := by unfold frm; rw [gn.1]
    have gg := h.1.1.gg hV
    rw [h.1.2.2, gn.1] at gg
    rw [gn.1] at bz
    have i1 : wr (f + 1) = f + 1 := wr_s (by omega) (by omega)
    have pl := plT_le (d := 9) (n := n) (m := M)
    have pe : plT 9 (n + 1) M = 5 * M + 90 + plT 9 n (M + 9) := rfl
    rw [lp_succ]
    show Ok (lb2_Law_plan_98 sc t0 a2 a3 _ (Value.ref t) f S K) _ _ _
    unfold lb2_Law_plan_98
    rw [gg, bnO_s, nm_x, wr_s (z := 2 * sg U0) (by omega) (by omega), if_neg (by omega)]
    by_cases c : i_and (i_shr (a3.tdiv 16) f) 1 = 0
    · rw [if_pos c, nm_x, i1]
      refine (l_pl98 (sc := sc) (a2 := a2) (a3 := a3) hG0 ht0 n N (f + 1) K t ss M (by omega) (by omega) (by omega) h (by omega) (by omega)).mono (by omega) (by omega) (fun v z => ?_)
      obtain ⟨K', t', ss', z1, z2, z3, z9⟩ := z
      exact ⟨K', t', ss', z1, z2.up (by omega), by omega, z9⟩
    · obtain ⟨K1, e1, h1, s1, l1⟩ := h.1.1.setC (f := f) ⟨h0, by omega⟩ (z := 1) (.inr rfl)
      have ht1 := h.2.1.1.fp h.1.1 s1
      have fC := h.1.1.fC
      rw [h.1.2.2] at fC
      have tc := tx_cost (N := M + 9) (m := M) (d := 9) rfl (by decide) (by omega)
      have hbl := h.2.1.2
      rw [if_neg c, fC, bnO_s, rfB_r, nz01.1, e1, bnO_s]
      refine (tx_co (N := M + 9) (C := 60 * n) (T := plT 9 n (M + 9)) ht1 rfl ⟨h0, by omega⟩ (dg1 (by omega)) (by omega) (by omega) (by omega) (fun t' K' u v y1 y2 y3 y4 => ?_)).mono (by omega) (by omega) (fun _ q => q)
      have hs : OkS (apL U0 ss) (sCo f) := ⟨h0, by rw [efL]; show f < frm U0; omega⟩
      have h2 := h.step (s := sCo f) (d := 9) hs h1 rfl s1 (fun b q => .inl q) h.2.2.2 y3 y1 (txl_co ⟨h0, by omega⟩)
      rw [nm_x, i1]
      refine (l_pl98 (sc := sc) (a2 := a2) (a3 := a3) hG0 ht0 n N (f + 1) K' t' (ss ++ [sCo f]) (M + 9) (by omega) (by omega) (by omega) h2 (by omega) (by omega)).mono (Nat.le_refl _) (Nat.le_refl _) (fun v z => ?_)
      obtain ⟨K2, t2, ss', z1, z2, z3, z9⟩ := z
      refine ⟨K2, t2, [sCo f] ++ ss', z1, ?_, by omega, NP_c (show (0 : Nat) ≠ 5 from by decide) z9⟩
      rw [← List.append_assoc]
      exact z2.up (by omega)
end PlanD
