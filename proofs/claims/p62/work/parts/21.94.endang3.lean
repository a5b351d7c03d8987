/-! endangered: the two answers -/
section Endang3
variable {W : Vw} {S T0 T T' : St} {n : Int} {hs : Int → Vw}
theorem HMo_keep (h : HMo T n hs) (hg : HGd n hs) (hn : n ≤ 20) (h1 : g T' 514 1 = g T 514 1) (h2 : g T' 514 2 = g T 514 2) (h3 : g T' 514 3 = g T 514 3) (hc : ∀ f, 1140 ≤ f → g T' 515 f = g T 515 f) : HMo T' n hs := by
  refine ⟨h3.trans h.1, fun j j0 j1 => ?_⟩
  have e := h.2 j j0 j1
  rw [← e]
  exact vM_eqv (by rw [e]; exact (hg j j0 j1).1) h1 h2 (fun x hx => hc _ (by omega))
theorem ok_endangered (hI : Inv S) : ∃ r S2, fn_FP_endangered 0 S = some r ∧ fn_Mo_endangered 514 S = some (r, S2) ∧ Inv S2 := by
  obtain ⟨W, n, hs, hG, hH, hP⟩ := hI
  have h := hP.1.1
  have fb := frm_b h.v
  have b0 := RM.begin hP.1.2 hP.2.1.2
  obtain ⟨T1, e1, o1, c1, d1⟩ := M_copy (S := u S 514 4 0) (b1 := 0) (b2 := 2) (by decide) (by decide)
  have g4 : ∀ f, g T1 514 f = g (u S 514 4 0) 514 f := fun f => o1.rd (by omega)
  have r1 : RM S T1 W n hs := by
    refine ⟨b0.1.trans ⟨o1.mono (by omega) (by omega), fun f _ _ => g4 f⟩, by rw [g4]; exact b0.2.1, ⟨?_, hG.1⟩, HMo_keep b0.2.2.2 hH hP.2.1.1.1.2 (g4 1) (g4 2) (g4 3) (fun f hf => d1 f (by omega))⟩
    have v := b0.2.2.1.1
    rw [← v]
    exact vM_eqv (by rw [v]; exact hG.1) (g4 1) (g4 2) (fun x hx => d1 _ (by omega))
  have ub : unP W ≤ 100 := by
    have q := sumR_bd (w := fun y => if at_ W 15 y = 0 then (1 : Int) else 0) (l := 0) (h := 1) (n := (frm W).toNat) (i := 0) (fun j _ _ => by
      show 0 ≤ (if at_ W 15 j = 0 then (1 : Int) else 0) ∧ (if at_ W 15 j = 0 then (1 : Int) else 0) ≤ 1
      split <;> decide)
    have := q.2
    unfold unP
    omega
  obtain ⟨T2, V, e2, r2, w2⟩ := M_endLoop (x := g T1 515 4) 100 W T1 FU ub (FU_lt (by omega)) (RL_of r1) hG.g3
  obtain ⟨T3, e3, o3, c3, d3⟩ := M_copy (S := T2) (b1 := 2) (b2 := 0) (by decide) (by decide)
  have g43 : ∀ f, g T3 514 f = g T2 514 f := fun f => o3.rd (by omega)
  have l2 : g T2 515 4 = lo_ V := r2.1.2.2.1.mlo
  have l1 : g T1 515 4 = lo_ W := r1.2.2.1.mlo
  have ew : wr (lo_ V - lo_ W) = wr (endW W) := by
    have q := wr_c (k := -lo_ W) w2
    rw [show lo_ W + endW W + -lo_ W = endW W by omega] at q
    rw [show lo_ V - lo_ W = lo_ V + -lo_ W by omega]
    exact q
  have hk : ∀ f, f ≠ 3 → f ≠ 4 → g T3 514 f = g S 514 f := fun f f3 f4 => by rw [g43]; exact r2.1.1.2 f f3 f4
  have f12 : ∀ f, f = 1 ∨ f = 2 → g T3 514 f = g (u S 514 4 0) 514 f := fun f hf => by rw [hk f (by omega) (by omega), g_ne (by omega)]
  have m3 : MV T3 W := by
    refine ⟨?_, hG.1⟩
    have v := b0.2.2.1.1
    rw [← v]
    refine vM_eqv (by rw [v]; exact hG.1) (f12 1 (.inl rfl)) (f12 2 (.inr rfl)) (fun x hx => ?_)
    rw [c3 x hx, r2.2 _ (by omega), c1 x hx]
  refine ⟨wr (endW W), T3, ?_, ?_, Inv.step hP hG hH OC.refl h hP.2.1.1 (S1' := S) Off.refl ⟨(r2.1.1.1).trans (o3.mono (by omega) (by omega)), hk⟩ m3 (r2.1.2.2.2.low (g43 1) (g43 2) (g43 3) (fun f hf => d3 f (by omega)))⟩
  · unfold fn_FP_endangered
    rw [tg_0_3, tg_5_0, tg_6_0, tg_6_3, F_end h, bnO_s]
  · have e1' : fn_Mo_copyBlock 514 0 2 (u S 514 4 0) = some T1 := e1
    have e3' : fn_Mo_copyBlock 514 2 0 T2 = some T3 := e3
    have e2' : lo_Mo_endangered_23 514 (g T1 515 4) FU (nxt W, T1) = some T2 := e2
    unfold fn_Mo_endangered
    rw [nm_x, e1', bnO_s, Mo_nextForm r1.2.2.1, bnO_s, tg_514_0, e2', bnO_s, nm_x, l2, l1, ew, e3', bnO_s]
end Endang3
