/-! closing of forms: pass and setClosing -/
section Close5
variable {W V V' : Vw} {S T0 T : St} {a f p i z s y n c0 c : Int} {hs : Int → Vw}
theorem lf_eqv (e : ∀ k, k ≠ 17 → V' k = V k) (n : N5 V V') (q : Int) : lf V' q = lf V q ∧ stOn V' q (-1) = stOn V q (-1) := by
  have ea := fun k hk => at_eqv (V := V) (V' := V') e (k := k) hk
  obtain ⟨n1, n2, n3, n4, n5⟩ := n
  have ec : ∀ s q, cov V' s q = cov V s q := fun s q => by
    unfold cov
    simp only [ea 11 (by decide), ea 7 (by decide)]
  have es : stOn V' q (-1) = stOn V q (-1) := by
    unfold stOn
    simp only [n2, ec]
  refine ⟨?_, es⟩
  unfold lf lefO room sumA sumB szA szB
  simp only [es, n1, n3, ea 0 (by decide), ea 6 (by decide), ea 12 (by decide), ea 13 (by decide)]
theorem grp_eqv (e : ∀ k, k ≠ 17 → V' k = V k) (n : N5 V V') (y q : Int) : grp V' y q = grp V y q := by
  have ea := fun k hk => at_eqv (V := V) (V' := V') e (k := k) hk
  unfold grp sumA
  simp only [n.1, ea 1 (by decide), ea 6 (by decide)]
theorem PT_time (h : PT S 5 W) (hz : 0 ≤ z ∧ z ≤ 9999) : PT (u S 6 6 z) 5 (up W 17 5 z) := by
  have ez : wr z = z := wr_s (by omega) (by omega)
  have n : N5 W (up W 17 5 z) := N5_up17 (by decide)
  have l := PL_upT (z := z) h.pl (j := 6) (.inl rfl) (fun _ => by rw [ez]; exact hz)
  rw [ez] at l
  refine ⟨l, ⟨fun q q1 q2 => ?_, fun y s y1 y2 s1 s2 => ?_⟩, ?_⟩
  · rw [N5_pgs n] at q2
    have e := lf_eqv (V := W) (V' := up W 17 5 z) up17 n q
    rw [e.1, e.2, g_ne (by omega), g_ne (by omega)]
    exact h.2.1.1 q q1 q2
  · rw [grp_eqv (V := W) (V' := up W 17 5 z) up17 n, g_ne (by omega)]
    exact h.2.1.2 y s y1 y2 s1 s2
  · have ep := N5_pgs n
    have ea := fun k hk => at_eqv (V := W) (V' := up W 17 5 z) up17 (k := k) hk
    obtain ⟨n1, n2, n3, n4, n5⟩ := n
    have er : ∀ q x y, rawR (up W 17 5 z) q x y = rawR W q x y := fun q x y => by
      unfold rawR sumA sumB szA szB
      simp only [n1, n3, ea 0 (by decide), ea 6 (by decide), ea 12 (by decide), ea 13 (by decide)]
    have ec : ∀ s q, cov (up W 17 5 z) s q = cov W s q := fun s q => by
      unfold cov
      simp only [ea 11 (by decide), ea 7 (by decide)]
    unfold Wf
    simp only [n1, n2, n3, ep, er, ec, ea 6 (by decide), ea 13 (by decide)]
    exact h.w
def hrA (W : Vw) : Int × Vw := itR (hrS (tm W + 1)) 0 (frm W).toNat (0, up W 17 5 (tm W + 1))
theorem frm_tm : frm (up W 17 5 z) = frm W := by unfold frm; rw [(N5_up17 (W := W) (z := z) (by decide : 5 ≤ 5)).2.2.2.1]
theorem hrA_good (hG : Good W) (ht : tm W + 1 ≤ 9999) : Good (hrA W).2 ∧ N5 W (hrA W).2 ∧ tm (hrA W).2 = tm W + 1 ∧ 0 ≤ (hrA W).1 ∧ (hrA W).1 ≤ 8 := by
  have fb := frm_b hG.1
  have b := hG.1.z
  have n0 : N5 W (up W 17 5 (tm W + 1)) := N5_up17 (by decide)
  obtain ⟨i1, i2, i3, i4, i5⟩ := hr_inv (V := up W 17 5 (tm W + 1)) (c0 := tm W + 1) (c := 0) (hG.g3.setT (z := tm W + 1) (by omega)) (m := (frm W).toNat) (by rw [frm_tm]; omega)
  refine ⟨⟨i1.1, i1.2.1, i1.2.2, fun f f1 f2 f3 => ?_⟩, n0.tr i2, i3.trans tm_tm, i4.1, by
    have := i4.2
    show (itR (hrS (tm W + 1)) 0 (frm W).toNat (0, up W 17 5 (tm W + 1))).1 ≤ 8
    omega⟩
  have f2' : f < frm (up W 17 5 (tm W + 1)) := by
    have hsg : sg (hrA W).2 = sg (up W 17 5 (tm W + 1)) := i2.2.2.2.1
    unfold frm at f2 ⊢
    rw [hsg] at f2
    exact f2
  obtain ⟨g1, g2, g3⟩ := i5 f f1 f2' f3
  rw [frm_tm] at f2'
  rw [at_upn (by decide)] at g1 g2 g3
  have g2' : at_ (hrA W).2 16 f = at_ W 16 f := g2
  have i3' : tm (hrA W).2 = tm W + 1 := i3.trans tm_tm
  rw [g2', i3']
  have d := hG.2.2.2 f f1 f2' g1
  have := g3 (by omega)
  omega
theorem due_hr (hG : Good W) : ∀ f, 0 ≤ f → f < frm (up W 17 5 (tm W + 1)) → at_ (up W 17 5 (tm W + 1)) 15 f = 0 → at_ (up W 17 5 (tm W + 1)) 16 f = -1 ∨ at_ (up W 17 5 (tm W + 1)) 16 f = tm W + 1 ∨ tm (up W 17 5 (tm W + 1)) < at_ (up W 17 5 (tm W + 1)) 16 f := fun f f1 f2 f3 => by
  rw [frm_tm] at f2
  rw [at_upn (by decide)] at f3 ⊢
  rw [tm_tm]
  have := hG.2.2.2 f f1 f2 f3
  omega
theorem P_hour (h : PT S 5 W) (hG : Good W) (ht : tm W + 1 ≤ 9999) : ∃ S', fn_Plan_closeDueForms 5 (u S 6 6 (g S 6 6 + 1)) = some ((hrA W).1, S') ∧ Off S S' 6 33 ∧ PT S' 5 (hrA W).2 := by
  have b := hG.1.z
  have e6 : g S 6 6 = tm W := h.pl.mtm
  rw [e6]
  obtain ⟨S', e, o, t⟩ := P_due (c0 := tm W + 1) (PT_time h (z := tm W + 1) (by omega)) (hG.g3.setT (z := tm W + 1) (by omega)) (by omega) (by rw [tm_tm]; exact Int.le_refl _) (due_hr hG)
  rw [frm_tm] at e t
  exact ⟨S', e, (Off.wt (by omega) (by omega)).trans o, t⟩
def psS (_ : Int) (s : Int × Vw) : Int × Vw := (s.1 + (hrA s.2).1, (hrA s.2).2)
def psN (W : Vw) (i : Int) : Int × Vw := itR psS 0 i.toNat (0, W)
theorem psN_s (hi : 0 ≤ i) : psN W (i + 1) = psS i (psN W i) := by
  unfold psN
  rw [show (i + 1).toNat = i.toNat + 1 by omega, itR_snoc, show (0 : Int) + (i.toNat : Int) = i by omega]
theorem psN_i (hG : Good W) (hi : 0 ≤ i) (ht : tm W + i ≤ 9999) : Good (psN W i).2 ∧ N5 W (psN W i).2 ∧ tm (psN W i).2 = tm W + i ∧ 0 ≤ (psN W i).1 ∧ (psN W i).1 ≤ 8 * i := by
  have q := itR_inv (f := psS) (n := i.toNat) (i := 0) (s := (0, W)) (I := fun j s => Good s.2 ∧ N5 W s.2 ∧ tm s.2 = tm W + j ∧ 0 ≤ s.1 ∧ s.1 ≤ 8 * j) (fun j s j1 j2 h => by
    obtain ⟨h1, h2, h3, h4⟩ := h
    have g := hrA_good h1 (by omega)
    refine ⟨g.1, h2.tr g.2.1, ?_, ?_, ?_⟩
    · show tm (hrA s.2).2 = _; rw [g.2.2.1, h3]; omega
    · show 0 ≤ s.1 + (hrA s.2).1; omega
    · show s.1 + (hrA s.2).1 ≤ _; omega) ⟨hG, ⟨rfl, rfl, rfl, rfl, rfl⟩, (Int.add_zero _).symm, Int.le_refl _, Int.le_refl _⟩
  rw [show (0 : Int) + (i.toNat : Int) = i by omega] at q
  exact q
theorem P_pass (h : PT S 5 W) (hG : Good W) (ha : 0 ≤ a ∧ a ≤ 500) (ht : tm W + a ≤ 9999) : ∃ S', lo_FP_pass_62 0 a FU (0, 0, S) = some ((psN W a).1, S') ∧ Off S S' 6 33 ∧ PT S' 5 (psN W a).2 := by
  obtain ⟨⟨c, S'⟩, e, hI⟩ := lp_inv (body := fun go p0 => lb_FP_pass_62 0 a go p0.1 p0.2.1 p0.2.2) (fun i (s : Int × St) => (s.1, i, s.2)) (fun s => s)
    (fun i s => 0 ≤ i ∧ s.1 = (psN W i).1 ∧ Off S s.2 6 33 ∧ PT s.2 5 (psN W i).2) a
    (fun go i s hI hi => by
      show lb_FP_pass_62 0 a go s.1 i s.2 = _
      unfold lb_FP_pass_62
      rw [if_pos hi])
    (fun go i s hI hi => by
      obtain ⟨h0, h1, h2, h3⟩ := hI
      have g := psN_i hG h0 (by omega)
      have sn := psN_s (W := W) h0
      rw [sn]
      obtain ⟨x, hx⟩ : ∃ x, x = psN W i := ⟨_, rfl⟩
      rw [← hx] at g h1 h3 ⊢
      obtain ⟨S1, e1, o1, t1⟩ := P_hour h3 g.1 (by omega)
      have gg := hrA_good g.1 (by omega)
      refine ⟨(s.1 + (hrA x.2).1, S1), ?_, by omega, by rw [h1]; rfl, h2.trans o1, t1⟩
      show lb_FP_pass_62 0 a go s.1 i s.2 = go (s.1 + (hrA x.2).1, i + 1, S1)
      unfold lb_FP_pass_62
      rw [if_neg (by omega), nm_x, tg_0_3, tg_5_0, e1, bnO_s, nm_x, nm_x, wr_s (z := s.1 + (hrA x.2).1) (by omega) (by omega), wr_s (z := i + 1) (by omega) (by omega)])
    (a - 0).toNat FU 0 (0, S) ⟨Int.le_refl _, rfl, Off.refl, h⟩ ha.1 rfl (FU_lt (by omega))
  have hc : c = (psN W a).1 := hI.2.1
  refine ⟨S', ?_, hI.2.2⟩
  rw [← hc]
  exact e
theorem CR_off {S1 S2 : St} {n' : Int} {hs' : Int → Vw} (h : CR S S1 W n' hs') (o : Off S1 S2 6 33) (t : PT S2 5 V) : CR S S2 V n' hs' := ⟨h.1.trans (o.oc (by omega)), t, h.2.2.off o (by omega)⟩
end Close5

