/-! A LIST EMPTIED -/
section Clear
variable {S : St} {L K : List PC} {a r : Nat} {m : Int} {cp : Nat} {xs : List Nat}
theorem k_clLoop {sz : Nat} (hsz : sz ≤ 200) : ∀ (n N i : Nat) (K : List PC) (vs : List Value), i + n = sz → n < N → hp K r = some (103, vs) → sz ≤ vs.length → ∃ K' vs', lp (fun go p => lb2_AL_clear_27 r (sz : Int) go p.1 p.2.1 p.2.2) N ((i : Int), (S, K)) = some ((S, K'), 0, 0) ∧ hp K' r = some (103, vs') ∧ vs'.length = vs.length ∧ K'.length = K.length ∧ ∀ b, b ≠ r → hp K' b = hp K b
  | 0, N + 1, i, K, vs, hi, _, h1, h2 => by
    refine ⟨K, vs, ?_, h1, rfl, rfl, fun _ _ => rfl⟩
    rw [lp_succ]
    show lb2_AL_clear_27 r (sz : Int) _ (i : Int) S K = _
    unfold lb2_AL_clear_27
    rw [if_pos (by omega)]
  | n + 1, N + 1, i, K, vs, hi, hN, h1, h2 => by
    obtain ⟨K1, e1, w1⟩ := ast_s h1 (i := (i : Int)) (by omega) (by omega) Value.null
    obtain ⟨K', vs', f1, f2, f3, f4, f5⟩ := k_clLoop hsz n N (i + 1) K1 _ (by omega) (by omega) w1.at (by rw [List.length_set]; exact h2)
    refine ⟨K', vs', ?_, f2, by rw [f3, List.length_set], by rw [f4, w1.1], fun b hb => by rw [f5 b hb, w1.ne hb]⟩
    have hun : ∀ gg, lb2_AL_clear_27 r (sz : Int) gg (i : Int) S K = gg (((i + 1 : Nat) : Int), (S, K1)) := fun gg => by
      unfold lb2_AL_clear_27
      rw [if_neg (by omega), if_pos (show okE K Value.null = true from rfl), e1, bnO_s, nm_x, wr_s (by omega) (by omega), show ((i + 1 : Nat) : Int) = (i : Int) + 1 by omega]
    rw [lp_succ]
    show lb2_AL_clear_27 r (sz : Int) _ (i : Int) S K = _
    rw [hun]
    exact f1
theorem k_clear (h : LsH L a r m cp xs) : ∃ L1 m1, gn_AL_clear a S L = some ((S, L1), 0, 0) ∧ LsH L1 a r m1 cp [] ∧ L1.length = L.length ∧ ∀ b, b ≠ a → b ≠ r → hp L1 b = hp L b := by
  have b := h.len
  obtain ⟨L3, e3, w3⟩ := pf_s h.2.1 (f := 2) (Nat.le_of_ble_eq_true rfl) (V (wr (m + 1)))
  have a3 : hp L3 a = some (13, [Value.ref r, V xs.length, V (wr (m + 1))]) := w3.at
  obtain ⟨L4, e4, w4⟩ := pf_s a3 (f := 1) (Nat.le_of_ble_eq_true rfl) (V 0)
  have a4 : hp L4 a = some (13, [Value.ref r, V 0, V (wr (m + 1))]) := w4.at
  have pre : ∀ K', lo2_AL_clear_27 r (xs.length : Int) FU (0, (S, L4)) = some ((S, K'), 0, 0) → gn_AL_clear a S L = some ((S, K'), 0, 0) := fun K' hK => by
    unfold gn_AL_clear
    rw [h.md, bnO_s, nm_x, e3, bnO_s, gfV_s a3 (f := 0) rfl, bnO_s, gfI_s a3 (f := 1) (z := (xs.length : Int)) rfl (len_in (by omega)), bnO_s, e4, bnO_s, rfB_r, hK, bnO_s]
    rfl
  rcases h.2.2 with ⟨er, e0⟩ | ⟨vs, h1, ⟨h2, h20⟩, hv⟩
  · have hx := h.nil e0
    refine ⟨L4, wr (m + 1), pre L4 ?_, ⟨⟨wr_in _, Nat.zero_le _, h.1.2.2⟩, a4, .inl ⟨er, e0⟩⟩, by rw [w4.1, w3.1], fun b hb _ => by rw [w4.ne hb, w3.ne hb]⟩
    rw [hx]
    show lp (fun go p => lb2_AL_clear_27 r ((([] : List Nat).length : Nat) : Int) go p.1 p.2.1 p.2.2) FU (0, (S, L4)) = _
    rw [show FU = (FU - 1) + 1 by have := FU_big (n := 0) (by decide); omega, lp_succ]
    show lb2_AL_clear_27 r ((([] : List Nat).length : Nat) : Int) _ 0 S L4 = _
    unfold lb2_AL_clear_27
    exact if_pos (show ((([] : List Nat).length : Nat) : Int) ≤ 0 from Int.le_refl 0)
  · have har : a ≠ r := hp_ne h.2.1 h1 (by decide)
    have r4 : hp L4 r = some (103, vs) := by rw [w4.ne har.symm, w3.ne har.symm]; exact h1
    have c := h.1.2.1
    obtain ⟨K', vs', f1, f2, f3, f4, f5⟩ := k_clLoop (S := S) (r := r) (sz := xs.length) b xs.length FU 0 L4 vs (Nat.zero_add _) (FU_big (by omega)) r4 (by omega)
    exact ⟨K', wr (m + 1), pre K' f1, ⟨⟨wr_in _, Nat.zero_le _, h.1.2.2⟩, by rw [f5 a har]; exact a4, .inr ⟨vs', f2, ⟨by rw [f3]; exact h2, h20⟩, fun i x hx => by rw [List.getElem?_nil] at hx; cases hx⟩⟩, by rw [f4, w4.1, w3.1], fun b hb hr => by rw [f5 b hr, w4.ne hb, w3.ne hb]⟩
end Clear
