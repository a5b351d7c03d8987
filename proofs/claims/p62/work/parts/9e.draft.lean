/-! load: the draft, and the statements that change an item -/
section Draft
variable {B : Int → Int} {L p s n v z : Int} {S S' S0 T T' T0 : St} {V V' W : Vw} {k : Nat} {a : Int}
def BZ (V : Vw) (T : St) : Prop := (∀ a, nA V ≤ a → a < 40 → g T 515 (35 + 7 * a).toNat = 0) ∧ (∀ s, nS V ≤ s → s < 10 → g T 515 (313 + 5 * s).toNat = 0) ∧ ∀ b, nB V ≤ b → b < 8 → g T 515 (360 + 2 * b).toNat = 0
def Cu2 (B : Int → Int) (L : Int) (S0 T0 : St) (s : Int) (S T : St) : Prop := (TxC B L S ∧ FlC S0 S) ∧ (TxM B L T ∧ FlM T0 T) ∧ (0 ≤ s ∧ s ≤ L) ∧ CuC B L S s ∧ TkM B L T s ∧ E0 S T
/-! rows of the draft -/
theorem D_vA (hk : k < 7) (h : vC S 34 = W) (ha : 0 ≤ a ∧ a < nA W) (hz : inR z) : vC (u S (36 + k) a.toNat z) 34 = up W k a.toNat z := by
  have q := vC_uA (S := S) (s := 34) (z := z) hk (a := a.toNat) (by have := ha.2; rw [← h] at this; have e : nA (vC S 34) = g S 35 7 := rfl; rw [e] at this; show (a.toNat : Int) < g S 35 7; omega)
  rw [h, wr_id hz] at q
  exact q
theorem D_vS (hk : 7 ≤ k ∧ k < 12) (h : vC S 34 = W) (ha : 0 ≤ a ∧ a < nS W) (hz : inR z) : vC (u S (37 + k) a.toNat z) 34 = up W k a.toNat z := by
  have q := vC_uS (S := S) (s := 34) (z := z) hk (a := a.toNat) (by have := ha.2; rw [← h] at this; have e : nS (vC S 34) = g S 43 5 := rfl; rw [e] at this; show (a.toNat : Int) < g S 43 5; omega)
  rw [h, wr_id hz] at q
  exact q
theorem D_vF (hk : 14 ≤ k ∧ k < 17) (h : vC S 34 = W) (ha : 0 ≤ a ∧ a < frm W) (hz : inR z) (h0 : k = 16 → 1 ≤ z) : vC (u S (39 + k) a.toNat z) 34 = up W k a.toNat z := by
  have q := vC_uF (S := S) (s := 34) (z := z) hk (a := a.toNat) (by have := ha.2; rw [← h] at this; have e : frm (vC S 34) = 2 * g S 34 4 := rfl; rw [e] at this; show (a.toNat : Int) < 2 * g S 34 4; omega)
  rw [h, wr_id hz] at q
  by_cases c : k = 16
  · rw [if_pos c] at q
    have h1 := h0 c
    unfold cl6 at q
    rw [if_neg (by omega), if_neg (by omega)] at q
    exact q
  · rw [if_neg c] at q
    exact q
theorem BZ.put (h : BZ V T) (hV : Val V) {f : Nat} (n : N5 V V') (hf : f < 29 ∨ (∃ a k : Int, (0 ≤ a ∧ a < nA V) ∧ (0 ≤ k ∧ k < 7) ∧ (f : Int) = 29 + 7 * a + k ∧ nA V ≤ 40) ∨ ∃ a k : Int, (0 ≤ a ∧ a < nS V) ∧ (0 ≤ k ∧ k < 5) ∧ (f : Int) = 309 + 5 * a + k ∧ nS V ≤ 10) : BZ V' (u T 515 f z) := by
  obtain ⟨h1, h2, h3⟩ := h
  have bv := hV.1
  obtain ⟨n1, n2, n3, n4, n5⟩ := n
  refine ⟨fun a a1 a2 => ?_, fun a a1 a2 => ?_, fun a a1 a2 => ?_⟩
  · rw [n1] at a1
    rw [g_ne ?_]
    · exact h1 a a1 a2
    · rcases hf with q | ⟨a', k, q1, q2, q3, q4⟩ | ⟨a', k, q1, q2, q3, q4⟩ <;> omega
  · rw [n2] at a1
    rw [g_ne ?_]
    · exact h2 a a1 a2
    · rcases hf with q | ⟨a', k, q1, q2, q3, q4⟩ | ⟨a', k, q1, q2, q3, q4⟩ <;> omega
  · rw [n3] at a1
    rw [g_ne ?_]
    · exact h3 a a1 a2
    · rcases hf with q | ⟨a', k, q1, q2, q3, q4⟩ | ⟨a', k, q1, q2, q3, q4⟩ <;> omega
theorem St2.c (h : St2 B L S0 T0 p S T) (o : Off S S' 33 61) : St2 B L S0 T0 p S' T := ⟨⟨h.1.1.off o (by omega), h.1.2.trans (o.mono (by omega) (by omega))⟩, h.2.1, h.2.2.1, by rw [o.rd (by omega)]; exact h.2.2.2.1, h.2.2.2.2.1, by rw [o.rd (by omega)]; exact h.2.2.2.2.2.1, by rw [o.rd (by omega)]; exact h.2.2.2.2.2.2⟩
theorem St2.m (h : St2 B L S0 T0 p S T) {f : Nat} (hf : f < 380) : St2 B L S0 T0 p S (u T 515 f z) := by
  obtain ⟨h1, ⟨h3, h4⟩, h5, h6, h7, h8⟩ := h
  obtain ⟨k1, k2, k3, k4, k5⟩ := h7
  exact ⟨h1, ⟨h3.fl (FlM.w5 hf), h4.trans (FlM.w5 hf)⟩, h5, h6, ⟨by rw [g_ne (by omega)]; exact k1, by rw [g_ne (by omega)]; exact k2, by rw [g_ne (by omega)]; exact k3, k4, k5⟩, by rw [g_ne (by omega)]; exact h8.1, by rw [g_ne (by omega)]; exact h8.2⟩
end Draft

