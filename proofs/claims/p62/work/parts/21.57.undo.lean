section Undo
variable {S T : St} {W : Vw} {n : Int} {hs : Int → Vw}
theorem MV.fld (h : MV S W) {f : Nat} {z : Int} (hf : f ≠ 1 ∧ f ≠ 2) : MV (u S 514 f z) W := by
  refine ⟨?_, h.2⟩
  rw [← h.1]
  exact vM_eqv (by rw [h.1]; exact h.2) (g_ne (by omega)) (g_ne (by omega)) (fun x _ => g_ne (by omega))
theorem HMo.fld (h : HMo S n hs) {f : Nat} {z : Int} (hf : f ≠ 1 ∧ f ≠ 2 ∧ f ≠ 3) : HMo (u S 514 f z) n hs := h.low (g_ne (by omega)) (g_ne (by omega)) (g_ne (by omega)) (fun f _ => g_ne (by omega))
theorem ok_undo (hI : Inv S) : ∃ b S1 S2, fn_FP_undo 0 S = some (b, S1) ∧ fn_Mo_undo 514 S1 = some (b, S2) ∧ Inv S2 := by
  obtain ⟨W, n, hs, hG, hH, hP⟩ := hI
  obtain ⟨hn, g2, hnx, hk⟩ := hP.2.1.1
  have gm := hP.2.1.2.1
  by_cases c : n = 0
  · refine ⟨false, S, u S 514 4 0, ?_, ?_, W, n, hs, hG, hH, hP.thr⟩
    · unfold fn_FP_undo fn_History_bringBack
      rw [tg_0_4, g2, if_pos c, bnO_s]
    · unfold fn_Mo_undo
      rw [nm_x, g_ne (by omega), gm, if_pos c]
  · have hGn := hH (n - 1) (by omega) (by omega)
    have hkn := hk (n - 1) (by omega) (by omega)
    obtain ⟨x, hx⟩ : ∃ x, x = (if g S 63 1 ≤ 0 then 19 else g S 63 1 - 1) := ⟨_, rfl⟩
    have xb : 0 ≤ x ∧ x < 20 := by rw [hx]; split <;> omega
    have xm : ((g S 63 1 - n + (n - 1)) % 20).toNat = x.toNat := by rw [hx]; split <;> omega
    rw [xm] at hkn
    obtain ⟨S1, h1⟩ : ∃ S1, S1 = u (u S 63 1 x) 63 2 (n - 1) := ⟨_, rfl⟩
    have o1 : Off S S1 63 64 := by rw [h1]; exact (Off.wt (by omega) (by omega)).tu (by omega) (by omega)
    have v1 : vC S1 (65 + 22 * x.toNat) = hs (n - 1) := by rw [vC_off o1 (by omega)]; exact hkn
    obtain ⟨S2, e2, o2, p2⟩ := P_become (S := S1) (p := 5) (s1 := 65 + 22 * x.toNat) (.inl rfl) (.inr (.inr ⟨x.toNat, by omega, rfl⟩)) (by omega) (by rw [v1]; exact hGn.1) (by rw [v1]; exact hGn.2.1)
    rw [v1] at p2
    have gx1 : g S1 63 1 = x := by rw [h1, g_ne (by omega), g_eq, wr_s (by omega) (by omega)]
    have gx2 : g S1 63 2 = n - 1 := by rw [h1, g_eq, wr_s (by omega) (by omega)]
    have hg : ∀ v, g (u S 63 1 v) 63 2 = n := fun v => by rw [g_ne (by omega)]; exact g2
    have eF : fn_FP_undo 0 S = some (true, S2) := by
      unfold fn_FP_undo fn_History_bringBack
      rw [tg_0_4, tg_0_3, g2, if_neg c]
      by_cases d : g S 63 1 ≤ 0
      · rw [if_pos d] at hx
        rw [if_pos d, nm_x, nm_x, hg, ← hx, ← h1, gx1, if_pos xb, tg_63_0, tg_64 (by omega), e2, bnO_s, bnO_s]
      · rw [if_neg d] at hx
        rw [if_neg d, nm_x, nm_x, hg, ← hx, ← h1, gx1, if_pos xb, tg_63_0, tg_64 (by omega), e2, bnO_s, bnO_s]
    have oc : OC S S2 := (o1.oc (by omega)).trans (o2.oc (by omega))
    have mo : MV S2 W := oc.mv hP.1.2
    have ho : HMo S2 n hs := oc.mo hP.2.1.2
    obtain ⟨T1, ht1⟩ : ∃ T1, T1 = u (u S2 514 4 0) 514 3 (n - 1) := ⟨_, rfl⟩
    have g5 : ∀ f, g T1 515 f = g S2 515 f := fun f => by rw [ht1, g_ne (by omega), g_ne (by omega)]
    have g4 : ∀ f, f ≠ 3 → f ≠ 4 → g T1 514 f = g S2 514 f := fun f f1 f2 => by rw [ht1, g_ne (by omega), g_ne (by omega)]
    obtain ⟨T2, e3, o3, c3, k3⟩ := M_copy (S := T1) (b1 := 3 + (n - 1).toNat) (b2 := 0) (by omega) (by omega)
    have t4 : ∀ f, g T2 514 f = g T1 514 f := fun f => o3.rd (by omega)
    have hb : ∀ j, 0 ≤ j → j < n → vM T1 (3 + j.toNat) = hs j := fun j j1 j2 => by
      rw [← ho.2 j j1 j2]
      exact vM_lw (by omega) (g4 1 (by omega) (by omega)) (g4 2 (by omega) (by omega)) (fun f _ => g5 f)
    have mv2 : MV T2 (hs (n - 1)) := by
      refine ⟨?_, hGn.1⟩
      rw [← hb (n - 1) (by omega) (by omega)]
      exact vM_eqv (by rw [hb (n - 1) (by omega) (by omega)]; exact hGn.1) (t4 1) (t4 2) c3
    have hm2 : HMo T2 (n - 1) hs := by
      refine ⟨by rw [t4, ht1, g_eq, wr_s (by omega) (by omega)], fun j j1 j2 => ?_⟩
      rw [← hb j j1 (by omega)]
      exact vM_eqv (by rw [hb j j1 (by omega)]; exact (hH j j1 (by omega)).1) (t4 1) (t4 2) (fun x hx => k3 _ (by omega))
    have hc2 : HCl S2 (n - 1) hs := by
      have gg1 : g S2 63 1 = x := by rw [o2.rd (by omega)]; exact gx1
      refine ⟨by omega, by rw [o2.rd (by omega)]; exact gx2, by rw [gg1]; exact xb, fun j j1 j2 => ?_⟩
      rw [gg1, vC_off o2 (by omega), vC_off o1 (by omega), ← hk j j1 (by omega)]
      have ei : ((x - (n - 1) + j) % 20).toNat = ((g S 63 1 - n + j) % 20).toNat := by rw [hx]; split <;> omega
      rw [ei]
    have om : OM S2 T2 := by
      refine ⟨?_, fun f f1 f2 => by rw [t4]; exact g4 f f1 f2⟩
      have oa : Off S2 T1 514 515 := by rw [ht1]; exact (Off.wt (by omega) (by omega)).tu (by omega) (by omega)
      exact (oa.mono (by omega) (by omega)).trans (o3.mono (by omega) (by omega))
    refine ⟨true, S2, T2, eF, ?_, Inv.step hP hGn (fun j j1 j2 => hH j j1 (by omega)) oc p2 hc2 (S1' := S2) Off.refl om mv2 hm2⟩
    unfold fn_Mo_undo
    have gm2 : g (u S2 514 4 0) 514 3 = n := by rw [g_ne (by omega)]; exact ho.1
    have gm3 : g T1 514 3 = n - 1 := by rw [ht1, g_eq, wr_s (by omega) (by omega)]
    rw [nm_x, gm2, if_neg c, nm_x, ← ht1, gm3, nm_x, wr_s (by omega) (by omega)]
    rw [show ((0 : Nat) : Int) = 0 from rfl, show ((3 + (n - 1).toNat : Nat) : Int) = 3 + (n - 1) by omega] at e3
    rw [e3, bnO_s]
theorem ok_truncateInput (hI : Inv S) {a : Int} (hi_a : inR a) : ∃ r S1 S2, fn_FP_truncateInput 0 a S = some (r, S1) ∧ fn_Mo_truncateInput 514 a S1 = some (r, S2) ∧ Inv S2 := by
  obtain ⟨W, n, hs, hG, hH, hP⟩ := hI
  obtain ⟨i1, i2, i3⟩ := hP.2.2.1
  by_cases c : 0 ≤ a ∧ a ≤ g S 1 1
  · have o1 : Off S (u S 1 1 a) 1 2 := Off.wt (by omega) (by omega)
    refine ⟨a, u S 1 1 a, u (u (u S 1 1 a) 514 4 0) 514 14 a, ?_, ?_, W, n, hs, hG, hH, ?_⟩
    · unfold fn_FP_truncateInput
      rw [tg_0_1, if_neg (by omega : ¬ a < 0), if_pos c.2, nm_x]
    · unfold fn_Mo_truncateInput
      rw [nm_x, g_ne (by omega), g_ne (by omega), i2, Mo_inRange, bnO_s, if_pos (decide_eq_true c), nm_x]
    · have m1 : MV (u S 1 1 a) W := ⟨by rw [← hP.1.2.1]; exact vM_off o1 (by omega), hP.1.2.2⟩
      have o2 : Off (u S 1 1 a) (u (u (u S 1 1 a) 514 4 0) 514 14 a) 514 515 := (Off.wt (by omega) (by omega)).tu (by omega) (by omega)
      have gg : ∀ x f, x ≠ 1 → x ≠ 514 → g (u (u (u S 1 1 a) 514 4 0) 514 14 a) x f = g S x f := fun x f h1 h2 => by rw [g_ne (by omega), g_ne (by omega), g_ne (by omega)]
      have g4 : ∀ f, f ≠ 4 → f ≠ 14 → g (u (u (u S 1 1 a) 514 4 0) 514 14 a) 514 f = g S 514 f := fun f h1 h2 => by rw [g_ne (by omega), g_ne (by omega), g_ne (by omega)]
      have gl1 : g (u (u (u S 1 1 a) 514 4 0) 514 14 a) 1 1 = a := by rw [g_ne (by omega), g_ne (by omega), g_eq, wr_id hi_a]
      have gl2 : g (u (u (u S 1 1 a) 514 4 0) 514 14 a) 514 14 = a := by rw [g_eq, wr_id hi_a]
      refine ⟨⟨(hP.1.1.off o1 (by omega)).off o2 (by omega), (m1.thr).fld (by omega)⟩, ⟨(hP.2.1.1.off o1 (by omega)).off o2 (by omega), ((hP.2.1.2.off o1 (by omega)).thr).fld (by omega)⟩, ?_, ?_, ?_⟩
      · refine ⟨by rw [gl1]; omega, by rw [gl1, gl2], fun j j1 j2 => ?_⟩
        rw [gl1] at j2
        rw [gg 2 _ (by omega) (by omega), gg 523 _ (by omega) (by omega)]
        exact i3 j j1 (by omega)
      · have q := hP.2.2.2.1
        unfold ErrR at q ⊢
        rw [gg 61 _ (by omega) (by omega), gg 61 _ (by omega) (by omega), g4 16 (by omega) (by omega), g4 17 (by omega) (by omega)]
        exact q
      · have q := hP.2.2.2.2
        unfold DscR at q ⊢
        simp only [gg 3 _ (by omega) (by omega), gg 4 _ (by omega) (by omega), gg 522 _ (by omega) (by omega), g4 12 (by omega) (by omega)]
        exact q
  · refine ⟨-1, S, u S 514 4 0, ?_, ?_, W, n, hs, hG, hH, hP.thr⟩
    · unfold fn_FP_truncateInput
      rw [tg_0_1]
      by_cases d : a < 0
      · rw [if_pos d]
      · rw [if_neg d, if_neg (by omega : ¬ a ≤ g S 1 1)]
    · unfold fn_Mo_truncateInput
      rw [nm_x, g_ne (by omega), i2, Mo_inRange, bnO_s, decide_eq_false c, if_neg Bool.false_ne_true]
end Undo
