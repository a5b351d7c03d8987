/-! A PLAN DRAWN FROM THE SCRIPT: its standbys, its closings -/
section PlanB
variable {S : St} {L0 K K' : List PC} {P : PA} {U U0 : Vw} {t t0 : Nat} {tx0 : List Int}
theorem l_pl662 {sc : SC} {a2 x A : Int} (hsc : (nI sc.2).toInt = (sc.2 : Int)) (hG0 : Good U0) (ht0 : tm U0 = 0) (ha : 0 ≤ a2 ∧ a2 ≤ 5000) (hx : 0 ≤ x ∧ x < 2147483648) (hA : A = 1 + x / 320000 % 5) : ∀ (n N : Nat) (k : Int) (K : List PC) (P : PA) (t : Nat) (ss : List Stm) (M : Nat), k + n = A → 0 ≤ k → n < N → BI L0 K P t0 t U0 tx0 ss M → ((xB P).length : Int) = k → M + 10 * n ≤ 700 → K.length + 740 * n < 200000000 →
    Ok (lp (fun go q => lb2_Law_plan_662 sc t0 a2 x go q.1 q.2.1 q.2.2.1 q.2.2.2) N (Value.ref t, k, (S, K))) (60 * n) (plT 10 n M + 74 * n) (fun v => ∃ K' t' P' ss', v = (Value.ref t', (S, K')) ∧ BI L0 K' P' t0 t' U0 tx0 (ss ++ ss') (M + 10 * n) ∧ (xA P' = xA P ∧ xS P' = xS P ∧ (xB P').length = (xB P).length + n) ∧ K'.length ≤ K.length + 740 * n ∧ NP ss')
  | 0, N + 1, k, K, P, t, ss, M, hk, h0, _, h, hl, hM, hK => by
    rw [lp_succ]
    show Ok (lb2_Law_plan_662 sc t0 a2 x _ (Value.ref t) k S K) _ _ _
    unfold lb2_Law_plan_662
    rw [nm_x, Int.tdiv_eq_ediv_of_nonneg hx.1, wr_s (z := x / 320000) (by omega) (by omega), nm_x, Int.tmod_eq_emod_of_nonneg (by omega), wr_s (z := 1 + x / 320000 % 5) (by omega) (by omega), if_pos (by omega)]
    exact Ok.ret ⟨K, t, P, [], rfl, by rw [List.append_nil]; exact h, ⟨rfl, rfl, rfl⟩, Nat.le_refl _, NP_nil⟩
  | n + 1, N + 1, k, K, P, t, ss, M, hk, h0, hN, h, hl, hM, hK => by
    have hG := (GoodL hG0 ht0 h.1.2.1).1
    have hV := hG.1
    have bz := hV.z
    have hT := h.1.2.2
    have hn := h.1.1.2.1.2.2
    have ple : plT 10 (n + 1) M = 5 * M + 90 + plT 10 n (M + 10) := rfl
    have n0 := N1.of (L := K) (c := (11, dfl 11)) (by omega)
    obtain ⟨ep, p0, p1⟩ := pk_ok hsc (k := a2 + 25 + k) (by omega) S (K ++ [(11, dfl 11)])
    obtain ⟨y, hy⟩ : ∃ y, y = pkv sc (a2 + 25 + k) := ⟨_, rfl⟩
    rw [← hy] at ep p0 p1
    have tm_ : ∀ a z : Int, 0 ≤ a → a.tmod z = a % z := fun a z ha => Int.tmod_eq_emod_of_nonneg ha
    obtain ⟨s, hs1⟩ : ∃ s, s = i_shl 1 (y % 3) := ⟨_, rfl⟩
    have hs2 : s = 1 ∨ s = 2 ∨ s = 4 := by
      have : y % 3 = 0 ∨ y % 3 = 1 ∨ y % 3 = 2 := by omega
      rcases this with e | e | e
      · rw [hs1, e]; exact .inl shl_123.1
      · rw [hs1, e]; exact .inr (.inl shl_123.2.1)
      · rw [hs1, e]; exact .inr (.inr shl_123.2.2)
    obtain ⟨L4, e1, w1⟩ := pf_s n0.at (f := 0) (Nat.le_of_ble_eq_true rfl) (V s)
    have nn := n0.w w1
    have hxx := nn.at
    rw [it_newB] at hxx
    have s4 : Sf F0_ K L4 := Sf.refl.n nn
    have l4 := nn.2.1
    have h4 := h.1.1.sf0 s4
    have hxn : ¬ fpP P (nCell + K.length) := fun q => by
      rcases fp_lt h.1.1.1 _ q with ⟨c, e⟩ | e
      · have := hp_lt e; omega
      · unfold nCell XB at e; omega
    have items : ∀ z ∈ xB P, okE L4 (Value.ref z) = true := fun z hz => by
      obtain ⟨i, hi⟩ := List.mem_iff_getElem?.mp hz
      exact okE_i (h4.1.2.2.2.2.1 i z hi) (.inl rfl)
    have hlA : (xB P).length = (nB (apL U0 ss)).toNat := by omega
    obtain ⟨L5, r', m', cp', c5, s5, e5, b5, hl5, hr5, hf5, g5, g5'⟩ := k_addAny (S := S) h4.lB (okE_i hxx (.inl rfl)) items (by show (xB P).length ≤ 49; omega) (by omega)
    obtain ⟨v1, v2, v3, v4, v5, v6⟩ := nwB_v (U := apL U0 ss) (F := fSb s) hV
    obtain ⟨n1', n2, n3, n4, n5, n6⟩ := nwB_n (V := apL U0 ss) (F := fSb s)
    have h5 : HP L5 (aB P r' m' cp' (nCell + K.length)) (apS (apL U0 ss) (sSb s)) := h4.addB (W' := nwB (apL U0 ss) (fSb s)) g5 hl5 hf5 hr5 h.2.2.2 hxx hxn (by rw [hlA, v1]; rfl) v2 v3 v4 ⟨n1', n2, n3, n4, n5, n6, v5⟩ v6
    have hx5 : hp L5 (nCell + K.length) = some (11, itV s 0 0 0 0 0 0) := add_keep h4.lB hr5 hf5 hxx (by decide)
    have sP : Sf (fpP P) K L5 := ⟨by omega, fun b hb hF => by
      rw [hf5 b (fun e => hF (.inr (.inr (.inr (.inl (.inl e)))))) (fun e => ?_), s4.2 b hb id]
      rcases hr5 with e' | e'
      · exact hF (.inr (.inr (.inr (.inl (.inr (e.trans e'))))))
      · omega⟩
    have ht5 := h.2.1.1.fp h.1.1 sP
    have fB4 := h4.fB
    rw [hT] at fB4
    have i1 : wr (k + 1) = k + 1 := wr_s (by omega) (by omega)
    have tc := tx_cost (N := M + 10) (m := M) (d := 10) rfl (by decide) (by omega)
    have hbl := h.2.1.2
    rw [lp_succ]
    show Ok (lb2_Law_plan_662 sc t0 a2 x _ (Value.ref t) k S K) _ _ _
    obtain ⟨gg, hgg⟩ : ∃ gg, gg = lp (fun go q => lb2_Law_plan_662 sc t0 a2 x go q.1 q.2.1 q.2.2.1 q.2.2.2) N := ⟨_, rfl⟩
    rw [← hgg]
    unfold lb2_Law_plan_662
    rw [nm_x, Int.tdiv_eq_ediv_of_nonneg hx.1, wr_s (z := x / 320000) (by omega) (by omega), nm_x, tm_ (x / 320000) 5 (by omega), wr_s (z := 1 + x / 320000 % 5) (by omega) (by omega), if_neg (by omega), if_pos (by omega), nw_x]
    refine Ok.ad (c := 1) (s := 7) (by omega) (by omega) ?_
    rw [show gn_LI_init (nCell + K.length) S (K ++ [(11, dfl 11)]) = some () from rfl, bnO_s, nm_x, wr_s (z := a2 + 25 + k) (by omega) (by omega), ep, bnO_s, tm_ y 3 p0, ← hs1, e1, bnO_s, fB4, bnO_s, rfB_r, if_pos h4.kB, e5, bnO_s]
    refine Ok.ad (c := c5) (s := s5) (by omega) (by omega) ?_
    dsimp only
    refine (tx_sb (N := M + 10) (C := 60 * n) (T := plT 10 n (M + 10) + 74 * n) (s := s) ht5 rfl hx5 rfl (by unfold inR; omega) (by omega) (dg1 (by omega)) (by omega) (by omega) (by omega) (fun t' K' u v y1 y2 y3 y4 => ?_)).mono (by omega) (by omega) (fun _ q => q)
    have h6 := h.step (s := sSb s) (d := 10) ⟨by show nB (apL U0 ss) < 5; omega, hs2⟩ h5 rfl sP (fun b q => by
      rcases fp_aB hr5 q with q | q | q
      · exact .inl q
      · exact .inr (by omega)
      · exact .inr (by omega)) (fun z => by
      show (pS P).2.1 ≠ r'
      have z : (pS P).2.1 < XB := z
      rcases hr5 with e' | e'
      · rw [e']; exact h.2.2.2 z
      · intro e
        rcases h.1.1.lS.2.2 with ⟨e2, _⟩ | ⟨vs, e2, _⟩
        · omega
        · have := hp_lt e2; omega) y3 y1 (txl_sb (by omega))
    have hxB : (xB (aB P r' m' cp' (nCell + K.length))).length = (xB P).length + 1 := by
      show (xB P ++ [nCell + K.length]).length = _
      rw [List.length_append]; rfl
    rw [nm_x, i1, hgg]
    refine (l_pl662 hsc hG0 ht0 ha hx hA n N (k + 1) K' (aB P r' m' cp' (nCell + K.length)) t' (ss ++ [sSb s]) (M + 10) (by omega) (by omega) (by omega) h6 (by omega) (by omega) (by omega)).mono (Nat.le_refl _) (Nat.le_refl _) (fun v z => ?_)
    obtain ⟨K2, t2, P2, ss', z1, z2, ⟨z3, z4, z5⟩, z6, z9⟩ := z
    refine ⟨K2, t2, P2, [sSb s] ++ ss', z1, ?_, ⟨z3, z4, by omega⟩, by omega, NP_c (show (3 : Nat) ≠ 5 from by decide) z9⟩
    rw [← List.append_assoc]
    exact z2.up (by omega)
end PlanB
