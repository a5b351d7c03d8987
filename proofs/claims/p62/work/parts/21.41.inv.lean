/-! WHAT HOLDS BETWEEN CALLS -/
def InpR (S : St) : Prop := (0 ≤ g S 1 1 ∧ g S 1 1 ≤ 1600) ∧ g S 514 14 = g S 1 1 ∧ ∀ j : Int, 0 ≤ j → j < g S 1 1 → g S 2 j.toNat = i_and (g S 523 j.toNat) 255
def ErrR (S : St) : Prop := g S 61 6 = g S 514 16 ∧ g S 61 7 = g S 514 17
def DscR (S : St) : Prop := (0 ≤ g S 3 1 ∧ g S 3 1 ≤ 20) ∧ g S 514 12 = g S 3 1 ∧ ∀ j : Int, 0 ≤ j → j < g S 3 1 → g S 4 j.toNat = g S 522 j.toNat
def Parts (S : St) (W : Vw) (n : Int) (hs : Int → Vw) : Prop := (PT S 5 W ∧ MV S W) ∧ (HCl S n hs ∧ HMo S n hs) ∧ InpR S ∧ ErrR S ∧ DscR S
def Inv (S : St) : Prop := ∃ W n hs, Good W ∧ HGd n hs ∧ Parts S W n hs
/-- what a call of the class leaves: all but its plan, its history and its rows for searches -/
def OC (S S' : St) : Prop := ∀ a, (a < 5 ∨ (33 ≤ a ∧ a < 63) ∨ 514 ≤ a) → S'.1 a = S.1 a ∧ S'.2.1 a = S.2.1 a ∧ S'.2.2 a = S.2.2 a
/-- what a call of the reference leaves -/
def OM (S S' : St) : Prop := Off S S' 514 522 ∧ ∀ f, f ≠ 3 → f ≠ 4 → g S' 514 f = g S 514 f
section InvRules
variable {S S' S'' : St} {W : Vw} {n : Int} {hs : Int → Vw}
theorem OC.refl : OC S S := fun _ _ => ⟨rfl, rfl, rfl⟩
theorem OC.trans (h : OC S S') (h' : OC S' S'') : OC S S'' := fun a ha => ⟨(h' a ha).1.trans (h a ha).1, (h' a ha).2.1.trans (h a ha).2.1, (h' a ha).2.2.trans (h a ha).2.2⟩
theorem Off.oc {lo hi : Nat} (h : Off S S' lo hi) (hl : (5 ≤ lo ∧ hi ≤ 33) ∨ (63 ≤ lo ∧ hi ≤ 514)) : OC S S' := fun a ha => h a (by omega)
theorem OC.rd (h : OC S S') {a f : Nat} (ha : a < 5 ∨ (33 ≤ a ∧ a < 63) ∨ 514 ≤ a) : g S' a f = g S a f := by unfold g; rw [(h a ha).1]
theorem OC.mv (h : OC S S') (hM : MV S W) : MV S' W := by
  refine ⟨?_, hM.2⟩
  rw [← hM.1]
  have e5 : g S' 515 = g S 515 := by funext f; exact h.rd (by omega)
  have e4 : g S' 514 = g S 514 := by funext f; exact h.rd (by omega)
  unfold vM
  rw [e5, e4]
theorem OC.mo (h : OC S S') (hM : HMo S n hs) : HMo S' n hs := hM.low (h.rd (by omega)) (h.rd (by omega)) (h.rd (by omega)) (fun f _ => h.rd (by omega))
theorem OM.refl : OM S S := ⟨Off.refl, fun _ _ _ => rfl⟩
theorem OM.trans (h : OM S S') (h' : OM S' S'') : OM S S'' := ⟨h.1.trans h'.1, fun f h1 h2 => (h'.2 f h1 h2).trans (h.2 f h1 h2)⟩
theorem OM.thr {z : Int} : OM S (u S 514 4 z) := ⟨Off.wt (by omega) (by omega), fun f _ h2 => g_ne (fun q => h2 q.2)⟩
theorem OM.wt {a f : Nat} {z : Int} (h1 : 515 ≤ a) (h2 : a < 522) : OM S (u S a f z) := ⟨Off.wt (by omega) h2, fun f' _ _ => g_ne (fun q => by omega)⟩
theorem InpR.oc (h : InpR S) (ho : OC S S') : InpR S' := by
  have e1 : ∀ f, g S' 1 f = g S 1 f := fun f => ho.rd (by omega)
  have e2 : ∀ f, g S' 2 f = g S 2 f := fun f => ho.rd (by omega)
  have e3 : ∀ f, g S' 514 f = g S 514 f := fun f => ho.rd (by omega)
  have e4 : ∀ f, g S' 523 f = g S 523 f := fun f => ho.rd (by omega)
  unfold InpR
  simp only [e1, e2, e3, e4]
  exact h
theorem ErrR.oc (h : ErrR S) (ho : OC S S') : ErrR S' := by
  unfold ErrR
  rw [ho.rd (by omega), ho.rd (by omega), ho.rd (by omega), ho.rd (by omega)]
  exact h
theorem DscR.oc (h : DscR S) (ho : OC S S') : DscR S' := by
  have e1 : ∀ f, g S' 3 f = g S 3 f := fun f => ho.rd (by omega)
  have e2 : ∀ f, g S' 4 f = g S 4 f := fun f => ho.rd (by omega)
  have e3 : ∀ f, g S' 514 f = g S 514 f := fun f => ho.rd (by omega)
  have e4 : ∀ f, g S' 522 f = g S 522 f := fun f => ho.rd (by omega)
  unfold DscR
  simp only [e1, e2, e3, e4]
  exact h
theorem InpR.om (h : InpR S) (ho : OM S S') : InpR S' := by
  have e1 : ∀ f, g S' 1 f = g S 1 f := fun f => ho.1.rd (by omega)
  have e2 : ∀ f, g S' 2 f = g S 2 f := fun f => ho.1.rd (by omega)
  have e4 : ∀ f, g S' 523 f = g S 523 f := fun f => ho.1.rd (by omega)
  unfold InpR
  simp only [e1, e2, e4, ho.2 14 (by omega) (by omega)]
  exact h
theorem ErrR.om (h : ErrR S) (ho : OM S S') : ErrR S' := by
  unfold ErrR
  rw [ho.1.rd (a := 61) (f := 6) (by omega), ho.1.rd (a := 61) (f := 7) (by omega), ho.2 16 (by omega) (by omega), ho.2 17 (by omega) (by omega)]
  exact h
theorem DscR.om (h : DscR S) (ho : OM S S') : DscR S' := by
  have e1 : ∀ f, g S' 3 f = g S 3 f := fun f => ho.1.rd (by omega)
  have e2 : ∀ f, g S' 4 f = g S 4 f := fun f => ho.1.rd (by omega)
  have e4 : ∀ f, g S' 522 f = g S 522 f := fun f => ho.1.rd (by omega)
  unfold DscR
  simp only [e1, e2, e4, ho.2 12 (by omega) (by omega)]
  exact h
theorem MV.thr (h : MV S W) {z : Int} : MV (u S 514 4 z) W := by
  refine ⟨?_, h.2⟩
  rw [← h.1]
  exact vM_eqv (by rw [h.1]; exact h.2) (g_ne (by omega)) (g_ne (by omega)) (fun x _ => g_ne (by omega))
theorem HMo.thr (h : HMo S n hs) {z : Int} : HMo (u S 514 4 z) n hs := h.low (g_ne (by omega)) (g_ne (by omega)) (g_ne (by omega)) (fun f _ => g_ne (by omega))
theorem Parts.thr (h : Parts S W n hs) {z : Int} : Parts (u S 514 4 z) W n hs := by
  have o : Off S (u S 514 4 z) 514 515 := Off.wt (Nat.le_refl _) (by omega)
  exact ⟨⟨h.1.1.off o (by omega), h.1.2.thr⟩, ⟨h.2.1.1.off o (by omega), h.2.1.2.thr⟩, h.2.2.1.om OM.thr, h.2.2.2.1.om OM.thr, h.2.2.2.2.om OM.thr⟩
theorem Parts.out {S' : St} (h : Parts S W n hs) (o : Off S S' 524 526) : Parts S' W n hs := by
  have oc : OC S S' → True := fun _ => trivial
  have hg : ∀ a f, a < 524 → g S' a f = g S a f := fun a f ha => o.rd (by omega)
  refine ⟨⟨h.1.1.off o (by omega), ?_⟩, ⟨h.2.1.1.off o (by omega), h.2.1.2.off o (by omega)⟩, ?_, ?_, ?_⟩
  · refine ⟨?_, h.1.2.2⟩
    rw [← h.1.2.1]
    exact vM_eqv (by rw [h.1.2.1]; exact h.1.2.2) (hg _ _ (by omega)) (hg _ _ (by omega)) (fun x _ => hg _ _ (by omega))
  · have q := h.2.2.1
    unfold InpR at q ⊢
    simp only [hg 1 _ (by omega), hg 2 _ (by omega), hg 514 _ (by omega), hg 523 _ (by omega)]
    exact q
  · have q := h.2.2.2.1
    unfold ErrR at q ⊢
    simp only [hg 61 _ (by omega), hg 514 _ (by omega)]
    exact q
  · have q := h.2.2.2.2
    unfold DscR at q ⊢
    simp only [hg 3 _ (by omega), hg 4 _ (by omega), hg 514 _ (by omega), hg 522 _ (by omega)]
    exact q
/-- the end of a call that may throw: e what was thrown, r the answer -/
def Fin (S : St) (e r : Int) : Prop := g S 514 4 = e ∧ (e = 0 → gl S 524 0 = r) ∧ Inv S
theorem fin0 {v : Int} (hG : Good W) (hH : HGd n hs) (h : Parts S W n hs) (hv : inR v) : Fin (u (ul S 524 0 v) 514 4 0) 0 v := by
  refine ⟨?_, fun _ => ?_, W, n, hs, hG, hH, (h.out (Off.wtl (by omega) (by omega))).thr⟩
  · rw [g_eq]; exact wr_s (by decide) (by decide)
  · show gl (ul S 524 0 v) 524 0 = v
    rw [gl_w, if_pos ⟨rfl, rfl⟩]; exact wl_id (inR_L hv)
theorem fin1 {k r : Int} (hG : Good W) (hH : HGd n hs) (h : Parts S W n hs) (hk : k = 1 ∨ k = 2) : Fin (u (u S 514 4 0) 514 4 k) k r := by
  refine ⟨?_, fun e => by omega, W, n, hs, hG, hH, h.thr.thr⟩
  rw [g_eq]
  exact wr_s (by omega) (by omega)
theorem Mo_thr0 {k : Int} : fn_Mo_throwsIf 514 0 k S = some (false, S) := by
  unfold fn_Mo_throwsIf
  rw [if_pos rfl, if_pos (.inl rfl)]
  rfl
theorem Mo_thr1 {k : Int} : fn_Mo_throwsIf 514 1 k S = some (true, u S 514 4 k) := by
  unfold fn_Mo_throwsIf
  rw [if_neg (by decide), nm_x, if_pos (.inr rfl)]
  rfl
/-- a call that changes the plan -/
theorem Inv.step {S1 S2 : St} {W' : Vw} {n' : Int} {hs' : Int → Vw} (h : Parts S W n hs) (hG : Good W') (hH : HGd n' hs') (oc : OC S S1) (hp : PT S1 5 W') (hc : HCl S1 n' hs') {S1' : St} (oo : Off S1 S1' 524 526) (om : OM S1' S2) (hm : MV S2 W') (ho : HMo S2 n' hs') : Inv S2 := by
  have hg : ∀ a f, a < 524 → g S1' a f = g S1 a f := fun a f ha => oo.rd (by omega)
  refine ⟨W', n', hs', hG, hH, ⟨(hp.off oo (by omega)).off om.1 (by omega), hm⟩, ⟨(hc.off oo (by omega)).off om.1 (by omega), ho⟩, InpR.om ?_ om, ErrR.om ?_ om, DscR.om ?_ om⟩
  · have q := h.2.2.1.oc oc
    unfold InpR at q ⊢
    simp only [hg 1 _ (by omega), hg 2 _ (by omega), hg 514 _ (by omega), hg 523 _ (by omega)]
    exact q
  · have q := h.2.2.2.1.oc oc
    unfold ErrR at q ⊢
    simp only [hg 61 _ (by omega), hg 514 _ (by omega)]
    exact q
  · have q := h.2.2.2.2.oc oc
    unfold DscR at q ⊢
    simp only [hg 3 _ (by omega), hg 4 _ (by omega), hg 514 _ (by omega), hg 522 _ (by omega)]
    exact q
end InvRules
