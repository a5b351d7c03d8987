/-! load: the plan's statement, and the whole text -/
section Plan9
variable {B : Int → Int} {L p s n v z c : Int} {S S' S0 T T' T0 : St} {V V' W : Vw} {a : Int}
def CB (T : St) : Prop := ∀ x : Nat, x < 380 → g T 515 x = if 5 ≤ x ∧ x < 29 ∧ (x - 5) % 3 = 2 then -1 else 0
theorem CB_z (h : CB T) {x : Nat} (hx : x < 380) (hn : ¬ (5 ≤ x ∧ x < 29 ∧ (x - 5) % 3 = 2)) : g T 515 x = 0 := by rw [h x hx, if_neg hn]
theorem BZ_em (h : CB T) {e : Int} : BZ (emV s e) T := by
  obtain ⟨n1, n2, n3, -⟩ := emV_n (s := s) (e := e)
  refine ⟨fun a a1 a2 => ?_, fun a a1 a2 => ?_, fun a a1 a2 => ?_⟩
  · rw [n1] at a1; exact CB_z h (by omega) (by omega)
  · rw [n2] at a1; exact CB_z h (by omega) (by omega)
  · rw [n3] at a1; exact CB_z h (by omega) (by omega)
theorem St2.f12 (h : St2 B L S0 T0 p S T) {f : Nat} (hf : f = 1 ∨ f = 2) : St2 B L S0 T0 p S (u T 514 f z) := by
  obtain ⟨h1, ⟨h3, h4⟩, h5, h6, h7, h8⟩ := h
  obtain ⟨k1, k2, k3, k4, k5⟩ := h7
  exact ⟨h1, ⟨h3.fl (FlM.w4 (by omega)), h4.trans (FlM.w4 (by omega))⟩, h5, h6, ⟨by rw [g_ne (by omega)]; exact k1, by rw [g_ne (by omega)]; exact k2, by rw [g_ne (by omega)]; exact k3, k4, k5⟩, by rw [g_ne (by omega)]; exact h8.1, by rw [g_ne (by omega)]; exact h8.2⟩
end Plan9

