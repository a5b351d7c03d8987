/-! WHAT HOLDS BETWEEN CALLS -/
def InpR (S : St) : Prop := (0 ≤ g S 1 1 ∧ g S 1 1 ≤ 1600) ∧ g S 514 14 = g S 1 1 ∧ ∀ j : Int, 0 ≤ j → j < g S 1 1 → g S 2 j.toNat = i_and (g S 523 j.toNat) 255
def ErrR (S : St) : Prop := g S 61 6 = g S 514 16 ∧ g S 61 7 = g S 514 17
def DscR (S : St) : Prop := (0 ≤ g S 3 1 ∧ g S 3 1 ≤ 20) ∧ g S 514 12 = g S 3 1 ∧ ∀ j : Int, 0 ≤ j → j < g S 3 1 → g S 4 j.toNat = g S 522 j.toNat
def OC (S S' : St) : Prop := ∀ a, (a < 5 ∨ (33 ≤ a ∧ a < 63) ∨ 514 ≤ a) → S'.1 a = S.1 a ∧ S'.2.1 a = S.2.1 a ∧ S'.2.2 a = S.2.2 a
def OM (S S' : St) : Prop := Off S S' 514 522 ∧ ∀ f, f ≠ 3 → f ≠ 4 → g S' 514 f = g S 514 f
section InvRules
variable {S S' S'' : St} {W : Vw} {n : Int} {hs : Int → Vw}
theorem OC.refl : OC S S := fun _ _ => ⟨rfl, rfl, rfl⟩
theorem OC.trans (h : OC S S') (h' : OC S' S'') : OC S S'' := fun a ha => ⟨(h' a ha).1.trans (h a ha).1, (h' a ha).2.1.trans (h a ha).2.1, (h' a ha).2.2.trans (h a ha).2.2⟩
theorem Off.oc {lo hi : Nat} (h : Off S S' lo hi) (hl : (5 ≤ lo ∧ hi ≤ 33) ∨ (63 ≤ lo ∧ hi ≤ 514)) : OC S S' := fun a ha => h a (by omega)
theorem OC.rd (h : OC S S') {a f : Nat} (ha : a < 5 ∨ (33 ≤ a ∧ a < 63) ∨ 514 ≤ a) : g S' a f = g S a f := by unfold g; rw [(h a ha).1]
theorem OM.refl : OM S S := ⟨Off.refl, fun _ _ _ => rfl⟩
theorem OM.trans (h : OM S S') (h' : OM S' S'') : OM S S'' := ⟨h.1.trans h'.1, fun f h1 h2 => (h'.2 f h1 h2).trans (h.2 f h1 h2)⟩
theorem OM.thr {z : Int} : OM S (u S 514 4 z) := ⟨Off.wt (by omega) (by omega), fun f _ h2 => g_ne (fun q => h2 q.2)⟩
theorem OM.wt {a f : Nat} {z : Int} (h1 : 515 ≤ a) (h2 : a < 522) : OM S (u S a f z) := ⟨Off.wt (by omega) h2, fun f' _ _ => g_ne (fun q => by omega)⟩
theorem InpR.oc (h : InpR S) (ho : OC S S') : InpR S' := by
  have e1 : ∀ f, g S' 1 f = g S 1 f := fun f => ho.rd (by omega)
  have e2 : ∀ f, g S' 2 f = g S 2 f := fun f => ho.rd (by omega)
  have e3 : ∀ f, g S' 514 f = g S 514 f := fun f => ho.rd (by omega)
  have e4 : ∀ f, g S' 523 f = g S 523 f := fun f => ho.rd (by omega)
  unfold InpR
  simp only [e1, e2, e3, e4]
  exact h
theorem ErrR.oc (h : ErrR S) (ho : OC S S') : ErrR S' := by
  unfold ErrR
  rw [ho.rd (by omega), ho.rd (by omega), ho.rd (by omega), ho.rd (by omega)]
  exact h
theorem DscR.oc (h : DscR S) (ho : OC S S') : DscR S' := by
  have e1 : ∀ f, g S' 3 f = g S 3 f := fun f => ho.rd (by omega)
  have e2 : ∀ f, g S' 4 f = g S 4 f := fun f => ho.rd (by omega)
  have e3 : ∀ f, g S' 514 f = g S 514 f := fun f => ho.rd (by omega)
  have e4 : ∀ f, g S' 522 f = g S 522 f := fun f => ho.rd (by omega)
  unfold DscR
  simp only [e1, e2, e3, e4]
  exact h
theorem InpR.om (h : InpR S) (ho : OM S S') : InpR S' := by
  have e1 : ∀ f, g S' 1 f = g S 1 f := fun f => ho.1.rd (by omega)
  have e2 : ∀ f, g S' 2 f = g S 2 f := fun f => ho.1.rd (by omega)
  have e4 : ∀ f, g S' 523 f = g S 523 f := fun f => ho.1.rd (by omega)
  unfold InpR
  simp only [e1, e2, e4, ho.2 14 (by omega) (by omega)]
  exact h
theorem ErrR.om (h : ErrR S) (ho : OM S S') : ErrR S' := by
  unfold ErrR
  rw [ho.1.rd (a := 61) (f := 6) (by omega), ho.1.rd (a := 61) (f := 7) (by omega), ho.2 16 (by omega) (by omega), ho.2 17 (by omega) (by omega)]
  exact h
theorem DscR.om (h : DscR S) (ho : OM S S') : DscR S' := by
  have e1 : ∀ f, g S' 3 f = g S 3 f := fun f => ho.1.rd (by omega)
  have e2 : ∀ f, g S' 4 f = g S 4 f := fun f => ho.1.rd (by omega)
  have e4 : ∀ f, g S' 522 f = g S 522 f := fun f => ho.1.rd (by omega)
  unfold DscR
  simp only [e1, e2, e4, ho.2 12 (by omega) (by omega)]
  exact h
end InvRules

