/-! A TEXT INTO THE INPUT: the law's method -/
section InpL
variable {S : St} {L0 L K : List PC} {t r : Nat} {bs : List Int}
def chs (bs : List Int) (k : Nat) : Nat → Nat := fun j => (bs.getD (k + j) 0).toNat
theorem chs_b (h : Asc bs) {k : Nat} : ∀ j, chs bs k j < 128 := fun j => by
  unfold chs
  by_cases c : k + j < bs.length
  · have := h (k + j) c
    omega
  · rw [List.getD_eq_getElem?_getD, List.getElem?_eq_none (by omega)]
    decide
theorem chs_v (h : Asc bs) {k j : Nat} (hj : k + j < bs.length) : ((chs bs k j : Nat) : Int) = bs.getD (k + j) 0 := by
  have := h (k + j) hj
  unfold chs
  omega
theorem l_in23 {k : Nat} (ht : StH L0 t bs) (hk : k < 5000) (hr : nCell + L0.length ≤ r) : ∀ (n N i : Nat) (K : List PC), i + n = min 20 (bs.length - k) → n < N → RowI K r 5 (fun w => ((wv (chs bs k) i w : Nat) : Int)) → Sf F0_ L0 K →
    ∃ K', lp (fun go p => lb2_Law_input_23 t (k : Int) r go p.1 p.2.1 p.2.2) N ((i : Int), (S, K)) = some ((S, K'), 0, 0) ∧ RowI K' r 5 (fun w => ((wv (chs bs k) (min 20 (bs.length - k)) w : Nat) : Int)) ∧ Sf F0_ L0 K' ∧ K'.length = K.length
  | 0, N + 1, i, K, hi, _, hR, hs => by
    have htK := ht.sf0 hs
    have hbl := htK.1.2.2
    refine ⟨K, ?_, by rw [← hi]; exact hR, hs, rfl⟩
    rw [lp_succ]
    show lb2_Law_input_23 t (k : Int) r _ (i : Int) S K = _
    unfold lb2_Law_input_23
    by_cases c : (20 : Int) ≤ (i : Int)
    · rw [if_pos c]
    · rw [if_neg c, if_pos htK.k, k_strLen htK, bnO_s, nm_x, wr_s (z := (k : Int) + (i : Int)) (by omega) (by omega), if_pos (by omega)]
  | n + 1, N + 1, i, K, hi, hN, hR, hs => by
    have htK := ht.sf0 hs
    have hbl := htK.1.2.2
    have cb := chs_b htK.1.2.1 (k := k)
    have l1 : (i : Int).tdiv 4 = ((i / 4 : Nat) : Int) := by rw [Int.tdiv_eq_ediv_of_nonneg (by omega)]; omega
    have l2 : (i : Int).tmod 4 = ((i % 4 : Nat) : Int) := by rw [Int.tmod_eq_emod_of_nonneg (by omega)]; omega
    have wl := wv_lt cb (i := i) (w := i / 4)
    have ea : ald K 0 r ((i / 4 : Nat) : Int) = some ((wv (chs bs k) i (i / 4) : Nat) : Int) := by
      have q := hR.at (w := ((i / 4 : Nat) : Int)) (by omega) (by show inR ((wv (chs bs k) i (((i / 4 : Nat) : Int)).toNat : Nat) : Int); rw [Int.toNat_natCast]; unfold inR; omega)
      have q : ald K 0 r ((i / 4 : Nat) : Int) = some ((wv (chs bs k) i (((i / 4 : Nat) : Int)).toNat : Nat) : Int) := q
      rw [Int.toNat_natCast] at q
      exact q
    have ec : gn_String_charAt t ((k : Int) + (i : Int)) S K = some ((chs bs k i : Nat) : Int) := by
      rw [k_charAt htK ⟨by omega, by omega⟩, show ((k : Int) + (i : Int)).toNat = k + i by omega, chs_v htK.1.2.1 (by omega)]
    obtain ⟨K1, e1, z1, s1, len1⟩ := hR.putK hs hr (w := ((i / 4 : Nat) : Int)) (by omega) ((wv (chs bs k) (i + 1) (i / 4) : Nat) : Int)
    have z2 : RowI K1 r 5 (fun w => ((wv (chs bs k) (i + 1) w : Nat) : Int)) := z1.eq (fun w hw => by
      show (if w = (((i / 4 : Nat) : Int)).toNat then ((wv (chs bs k) (i + 1) (i / 4) : Nat) : Int) else ((wv (chs bs k) i w : Nat) : Int)) = _
      rw [Int.toNat_natCast]
      by_cases c : w = i / 4
      · rw [if_pos c, c]
      · rw [if_neg c, wv_o c])
    obtain ⟨K', x1, x2, x3, x4⟩ := l_in23 ht hk hr n N (i + 1) K1 (by omega) (by omega) z2 s1
    refine ⟨K', ?_, x2, x3, by rw [x4, len1]⟩
    rw [lp_succ]
    show lb2_Law_input_23 t (k : Int) r _ (i : Int) S K = _
    unfold lb2_Law_input_23
    rw [if_neg (by omega), if_pos htK.k, k_strLen htK, bnO_s, nm_x, wr_s (z := (k : Int) + (i : Int)) (by omega) (by omega), if_neg (by omega), nm_x, l1, wr_s (z := ((i / 4 : Nat) : Int)) (by omega) (by omega), ea, bnO_s, nm_x, if_pos htK.k, ec, bnO_s, nm_x, l2, wv_step cb, e1, bnO_s, nm_x, wr_s (z := (i : Int) + 1) (by omega) (by omega)]
    exact x1
/-- twenty bytes more -/
theorem in_c20 {w0 w1 w2 w3 w4 : Int} {l : Int} (h0 : inR w0) (h1 : inR w1) (h2 : inR w2) (h3 : inR w3) (h4 : inR w4) (hL : g S 1 1 = l) (h : 0 ≤ l ∧ l + 20 ≤ 1600) : ∃ z S', fn_FP_appendInput 0 w0 w1 w2 w3 w4 S = some (z, S') ∧ Off S S' 1 3 ∧ g S' 1 1 = l + 20 ∧ (∀ j : Int, 0 ≤ j → j < l → g S' 2 j.toNat = g S 2 j.toNat) ∧ ∀ i : Int, 0 ≤ i → i < 4 → (g S' 2 (l + i).toNat = byt w0 i ∧ g S' 2 (l + 4 + i).toNat = byt w1 i ∧ g S' 2 (l + 8 + i).toNat = byt w2 i ∧ g S' 2 (l + 12 + i).toNat = byt w3 i ∧ g S' 2 (l + 16 + i).toNat = byt w4 i) := by
  obtain ⟨S1, e1, o1, l1, k1, v1⟩ := in_c4 h0 hL ⟨h.1, by omega⟩
  obtain ⟨S2, e2, o2, l2, k2, v2⟩ := in_c4 h1 l1 ⟨by omega, by omega⟩
  obtain ⟨S3, e3, o3, l3, k3, v3⟩ := in_c4 h2 l2 ⟨by omega, by omega⟩
  obtain ⟨S4, e4, o4, l4, k4, v4⟩ := in_c4 h3 l3 ⟨by omega, by omega⟩
  obtain ⟨S5, e5, o5, l5, k5, v5⟩ := in_c4 h4 l4 ⟨by omega, by omega⟩
  refine ⟨g S5 1 1, S5, ?_, (((o1.trans o2).trans o3).trans o4).trans o5, by omega, fun j j0 j1 => ?_, fun i i0 i1 => ⟨?_, ?_, ?_, ?_, ?_⟩⟩
  · unfold fn_FP_appendInput
    rw [tg_0_1, hL, nm_x, wr_s (by omega) (by omega), if_pos (by omega), e1, bnO_s, e2, bnO_s, e3, bnO_s, e4, bnO_s, e5, bnO_s]
  · rw [k5 j j0 (by omega), k4 j j0 (by omega), k3 j j0 (by omega), k2 j j0 (by omega), k1 j j0 j1]
  · rw [k5 (l + i) (by omega) (by omega), k4 (l + i) (by omega) (by omega), k3 (l + i) (by omega) (by omega), k2 (l + i) (by omega) (by omega), v1 i i0 i1]
  · rw [k5 (l + 4 + i) (by omega) (by omega), k4 (l + 4 + i) (by omega) (by omega), k3 (l + 4 + i) (by omega) (by omega), v2 i i0 i1]
  · rw [show l + 8 + i = l + 4 + 4 + i by omega, k5 (l + 4 + 4 + i) (by omega) (by omega), k4 (l + 4 + 4 + i) (by omega) (by omega), v3 i i0 i1]
  · rw [show l + 12 + i = l + 4 + 4 + 4 + i by omega, k5 (l + 4 + 4 + 4 + i) (by omega) (by omega), v4 i i0 i1]
  · rw [show l + 16 + i = l + 4 + 4 + 4 + 4 + i by omega, v5 i i0 i1]
theorem l_in8 (ht : StH L0 t bs) (hb : bs.length ≤ 700) : ∀ (n N k : Nat) (S : St) (K : List PC), bs.length ≤ k + 20 * n → k ≤ 720 → n < N → g S 1 1 = (k : Int) → (∀ j : Nat, j < k → j < bs.length → g S 2 j = bs.getD j 0) → Sf F0_ L0 K → K.length + n < 900000000 →
    Ok (lp (fun go p => lb2_Law_input_8 t go p.1 p.2.1 p.2.2) N ((k : Int), (S, K))) n (5 * n) (fun v => ∃ S' K' k', v = (S', K') ∧ bs.length ≤ k' ∧ g S' 1 1 = ((k' : Nat) : Int) ∧ (∀ j : Nat, j < bs.length → g S' 2 j = bs.getD j 0) ∧ Off S S' 1 3 ∧ Sf F0_ L0 K' ∧ K'.length ≤ K.length + n)
  | n, N + 1, k, S, K, hn, hk, hN, h1, hj, hs, hK => by
    have htK := ht.sf0 hs
    obtain ⟨gg, hgg⟩ : ∃ gg, gg = lp (fun go p => lb2_Law_input_8 t go p.1 p.2.1 p.2.2) N := ⟨_, rfl⟩
    rw [lp_succ]
    show Ok (lb2_Law_input_8 t _ (k : Int) S K) _ _ _
    rw [← hgg]
    unfold lb2_Law_input_8
    rw [if_pos htK.k, k_strLen htK, bnO_s]
    by_cases c : bs.length ≤ k
    · rw [if_pos (by omega)]
      exact Ok.ret ⟨S, K, k, rfl, c, h1, fun j j1 => hj j (by omega) j1, Off.refl, hs, by omega⟩
    · obtain ⟨m, rfl⟩ : ∃ m, n = m + 1 := ⟨n - 1, by omega⟩
      have hle := hs.1
      obtain ⟨n1, r1⟩ := RowI.new (K := K) (m := 5) (by omega)
      have s1 : Sf F0_ L0 (K ++ [(100, List.replicate 5 (.int 0))]) := hs.trans n1.sf0
      have cb := chs_b htK.1.2.1 (k := k)
      have r2 : RowI (K ++ [(100, List.replicate 5 (.int 0))]) (nCell + K.length) 5 (fun w => ((wv (chs bs k) 0 w : Nat) : Int)) := r1.eq (fun w _ => by
        unfold wv
        rw [if_neg (by omega), if_neg (by omega), if_neg (by omega), if_neg (by omega)]
        rfl)
      obtain ⟨K2, e2, r3, s2, l2⟩ := l_in23 (S := S) (r := nCell + K.length) ht (by omega) (by omega) (min 20 (bs.length - k)) FU 0 _ (by omega) (FU_big (by omega)) r2 s1
      have e2 : lo2_Law_input_23 t (k : Int) (nCell + K.length) FU (0, (S, K ++ [(100, List.replicate 5 (.int 0))])) = some ((S, K2), 0, 0) := e2
      have l1 : (K ++ [(100, List.replicate 5 (Value.int 0))]).length = K.length + 1 := n1.2.1
      have wl : ∀ w, inR ((wv (chs bs k) (min 20 (bs.length - k)) w : Nat) : Int) := fun w => by
        have := wv_lt cb (i := min 20 (bs.length - k)) (w := w)
        unfold inR; omega
      obtain ⟨z, S3, e3, o3, g3, p3, v3⟩ := in_c20 (S := S) (l := (k : Int)) (wl 0) (wl 1) (wl 2) (wl 3) (wl 4) h1 (by omega)
      have by_ : ∀ j : Nat, j < k + 20 → j < bs.length → g S3 2 j = bs.getD j 0 := fun j j1 j2 => by
        by_cases d : j < k
        · have q := p3 (j : Int) (by omega) (by omega)
          rw [Int.toNat_natCast] at q
          rw [q]
          exact hj j d j2
        · have hw : ∀ w : Nat, w < 5 → ∀ t : Nat, t < 4 → j = k + (4 * w + t) → byt ((wv (chs bs k) (min 20 (bs.length - k)) w : Nat) : Int) (t : Int) = bs.getD j 0 := fun w _ t ht' ej => by
            rw [wv_byt cb ht' (by omega), chs_v htK.1.2.1 (by omega), ej]
          obtain ⟨q0, q1, q2, q3, q4⟩ := v3 (((j - k) % 4 : Nat) : Int) (by omega) (by omega)
          have w5 : (j - k) / 4 = 0 ∨ (j - k) / 4 = 1 ∨ (j - k) / 4 = 2 ∨ (j - k) / 4 = 3 ∨ (j - k) / 4 = 4 := by omega
          rcases w5 with w5 | w5 | w5 | w5 | w5
          · rw [show ((k : Int) + (((j - k) % 4 : Nat) : Int)).toNat = j by omega] at q0
            rw [q0]; exact hw 0 (by decide) _ (by omega) (by omega)
          · rw [show ((k : Int) + 4 + (((j - k) % 4 : Nat) : Int)).toNat = j by omega] at q1
            rw [q1]; exact hw 1 (by decide) _ (by omega) (by omega)
          · rw [show ((k : Int) + 8 + (((j - k) % 4 : Nat) : Int)).toNat = j by omega] at q2
            rw [q2]; exact hw 2 (by decide) _ (by omega) (by omega)
          · rw [show ((k : Int) + 12 + (((j - k) % 4 : Nat) : Int)).toNat = j by omega] at q3
            rw [q3]; exact hw 3 (by decide) _ (by omega) (by omega)
          · rw [show ((k : Int) + 16 + (((j - k) % 4 : Nat) : Int)).toNat = j by omega] at q4
            rw [q4]; exact hw 4 (by decide) _ (by omega) (by omega)
      have a : ∀ w : Nat, w < 5 → ald K2 0 (nCell + K.length) (w : Int) = some ((wv (chs bs k) (min 20 (bs.length - k)) w : Nat) : Int) := fun w hw => by
        have q := r3.at (w := (w : Int)) (by omega) (wl _)
        have q : ald K2 0 (nCell + K.length) (w : Int) = some ((wv (chs bs k) (min 20 (bs.length - k)) ((w : Int)).toNat : Nat) : Int) := q
        rw [Int.toNat_natCast] at q
        exact q
      have a0 : ald K2 0 (nCell + K.length) 0 = _ := a 0 (by decide)
      have a1 : ald K2 0 (nCell + K.length) 1 = _ := a 1 (by decide)
      have a2 : ald K2 0 (nCell + K.length) 2 = _ := a 2 (by decide)
      have a3 : ald K2 0 (nCell + K.length) 3 = _ := a 3 (by decide)
      have a4 : ald K2 0 (nCell + K.length) 4 = _ := a 4 (by decide)
      rw [if_neg (by omega), if_pos (by decide), if_pos (by omega), show (5 : Int).toNat = 5 from rfl, nw_x]
      refine Ok.ad (c := 1) (s := 5) (by omega) (by omega) ?_
      rw [e2, bnO_s]
      refine Ok.ad (c := 0) (s := 0) (Nat.zero_le _) (Nat.zero_le _) ?_
      dsimp only
      rw [a0, bnO_s, a1, bnO_s, a2, bnO_s, a3, bnO_s, a4, bnO_s, e3, bnO_s, nm_x, wr_s (z := (k : Int) + 20) (by omega) (by omega), hgg]
      refine (l_in8 ht hb m N (k + 20) S3 K2 (by omega) (by omega) (by omega) g3 by_ s2 (by omega)).mono (by omega) (by omega) (fun v q => ?_)
      obtain ⟨S', K', k', x1, x2, x3, x4, x5, x6, x7⟩ := q
      exact ⟨S', K', k', x1, x2, x3, x4, o3.trans x5, x6, by omega⟩
theorem l_input (ht : StH L t bs) (hb : bs.length ≤ 680) (hi : 0 ≤ g S 1 1) (hL : L.length < 800000000) :
    Ok (gn_Law_input t S L) 34 170 (fun v => ∃ S' L', v = (S', L') ∧ TxC (Bs bs) bs.length S' ∧ Off S S' 1 3 ∧ Sf F0_ L L' ∧ L'.length ≤ L.length + 34) := by
  have e1 : fn_FP_truncateInput 0 0 S = some (0, u S 1 1 0) := by
    unfold fn_FP_truncateInput
    rw [tg_0_1, if_neg (by decide), if_pos hi, nm_x]
  have o1 : Off S (u S 1 1 0) 1 3 := Off.wt (by omega) (by omega)
  unfold gn_Law_input
  rw [e1, bnO_s]
  refine Ok.bind (l_in8 ht (by omega) 34 FU 0 (u S 1 1 0) L (by omega) (by omega) (FU_big (by omega)) (by rw [g_eq, wr_0]; rfl) (fun j j1 _ => absurd j1 (Nat.not_lt_zero _)) Sf.refl (by omega)) (Nat.le_refl _) (Nat.le_refl _) ?_
  rintro v cc ss ⟨S', K', k', rfl, x2, x3, x4, x5, x6, x7⟩
  have htK := ht.sf0 x6
  have hA := htK.1.2.1
  dsimp only
  have e2 : fn_FP_truncateInput 0 (bs.length : Int) S' = some ((bs.length : Int), u S' 1 1 (bs.length : Int)) := by
    unfold fn_FP_truncateInput
    rw [tg_0_1, if_neg (by omega), x3, if_pos (by omega), nm_x]
  rw [if_pos htK.k, k_strLen htK, bnO_s, e2, bnO_s]
  have o2 : Off S' (u S' 1 1 (bs.length : Int)) 1 3 := Off.wt (by omega) (by omega)
  refine Ok.ret ⟨_, K', rfl, ⟨Bs_txt hA (by omega), by rw [g_eq, wr_s (by omega) (by omega)], fun j j0 j1 => ?_⟩, (o1.trans x5).trans o2, x6, x7⟩
  rw [g_ne (by omega), x4 j.toNat (by omega)]
  unfold Bs
  rw [if_pos ⟨j0, j1⟩]
end InpL
