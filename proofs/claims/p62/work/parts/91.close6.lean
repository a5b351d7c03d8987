/-! closing of forms: setClosing -/
section Close6
variable {W V V' : Vw} {S T0 T : St} {a f p i z s y n c0 c : Int} {hs : Int → Vw}
theorem hr_one (hV : Val V) (ha : 0 ≤ a ∧ a < frm V) (h5 : at_ V 15 a = 0) (h6 : at_ V 16 a = z) (ho : ∀ f, 0 ≤ f → f < frm V → f ≠ a → at_ V 15 f = 0 → at_ V 16 f ≠ z) : itR (hrS z) 0 (frm V).toNat (0, V) = (1, clW a V) := by
  have e1 : itR (hrS z) 0 a.toNat (0, V) = (0, V) := itR_fix (fun j j1 j2 => by
    unfold hrS
    rw [if_neg (fun w => ho j j1 (by omega) (by omega) w.1 w.2)])
  have e2 : itR (hrS z) (a + 1) (frm V - (a + 1)).toNat (1, clW a V) = (1, clW a V) := itR_fix (fun j j1 j2 => by
    unfold hrS
    rw [if_neg (fun w => ?_)]
    have w1 : at_ (clW a V) 15 j = 0 := w.1
    have w2 : at_ (clW a V) 16 j = z := w.2
    rw [clW_15 ha.1 (by omega), if_neg (by omega)] at w1
    rw [clW_at (by decide) (by decide) (by decide) (by decide) (by decide)] at w2
    exact ho j (by omega) (by omega) (by omega) w1 w2)
  have e3 : hrS z a (0, V) = (1, clW a V) := by
    unfold hrS
    rw [if_pos ⟨h5, h6⟩]
    rfl
  rw [show (frm V).toNat = a.toNat + ((frm V - (a + 1)).toNat + 1) by omega, itR_add, e1, show (0 : Int) + (a.toNat : Int) = a by omega]
  show itR (hrS z) (a + 1) _ (hrS z a (0, V)) = _
  rw [e3, e2]
theorem G3_closing (hG : Good W) (ha : 0 ≤ a ∧ a < frm W) (hz : 1 ≤ z ∧ z ≤ 9999) : G3 (up W 16 a.toNat z) := hG.g3.step (by decide) (fun h => Good_other h ha.1 (.inr (.inr (.inr (.inr ⟨rfl, hz, by rw [tm_tm]; omega⟩)))))
end Close6

