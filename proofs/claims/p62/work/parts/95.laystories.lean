/-! layStories -/
section LayStories
variable {W V : Vw} {S T0 T : St} {s y i n : Int} {hs : Int → Vw}
def fsL (W : Vw) (s : Int) : Int := fstR (fun q => decide (layR W s q = 0)) 1 (pgs W).toNat
theorem fsL_spec (hV : Val W) : fsL W s = -1 ∨ ((1 ≤ fsL W s ∧ fsL W s ≤ pgs W) ∧ layR W s (fsL W s) = 0) := by
  have b := hV.pg
  rcases fstR_spec (p := fun q => decide (layR W s q = 0)) (n := (pgs W).toNat) (i := 1) (by decide) with q | q
  · exact .inl q.1
  · have q3 := of_decide_eq_true q.2.2.1
    exact .inr ⟨⟨q.1, by have := q.2.1; unfold fsL; omega⟩, q3⟩
def lsS (y s : Int) (x : Int × Vw) : Int × Vw := if at_ x.2 7 s = y ∧ at_ x.2 11 s = 0 ∧ fsL x.2 s ≠ -1 then (x.1 + 1, up x.2 11 s.toNat (fsL x.2 s)) else x
def lsI (y i : Int) (x : Int × Vw) : Int × Vw := itR (lsS y) 0 i.toNat x
def lsT (j : Int) (x : Int × Vw) : Int × Vw := lsI (8 - j) (nS x.2) x
def lsO (W : Vw) (j : Int) : Int × Vw := itR lsT 0 j.toNat (0, W)
theorem lsI_s {x : Int × Vw} (hi : 0 ≤ i) : lsI y (i + 1) x = lsS y i (lsI y i x) := by
  unfold lsI
  rw [show (i + 1).toNat = i.toNat + 1 by omega, itR_snoc, show (0 : Int) + (i.toNat : Int) = i by omega]
theorem lsI_nS {x : Int × Vw} : nS (lsI y i x).2 = nS x.2 := by
  unfold lsI
  exact itR_inv (f := lsS y) (n := i.toNat) (i := 0) (s := x) (I := fun _ z => nS z.2 = nS x.2) (fun j z _ _ hz => by
    show nS (lsS y j z).2 = _
    unfold lsS
    split
    · rw [← hz]; exact nS_up (by decide)
    · exact hz) rfl
theorem lsO_s (hi : 0 ≤ i) : lsO W (i + 1) = lsT i (lsO W i) := by
  unfold lsO
  rw [show (i + 1).toNat = i.toNat + 1 by omega, itR_snoc, show (0 : Int) + (i.toNat : Int) = i by omega]
theorem lsS_i {x : Int × Vw} (hG : Good x.2) (hs : 0 ≤ s ∧ s < nS x.2) : Good (lsS y s x).2 ∧ N5 x.2 (lsS y s x).2 ∧ x.1 ≤ (lsS y s x).1 ∧ (lsS y s x).1 ≤ x.1 + 1 := by
  unfold lsS
  by_cases c : at_ x.2 7 s = y ∧ at_ x.2 11 s = 0 ∧ fsL x.2 s ≠ -1
  · rw [if_pos c]
    have q := (fsL_spec hG.1).resolve_left c.2.2
    exact ⟨Good_setS hG hs (.inr q.2), N5_up (by decide), by show x.1 ≤ x.1 + 1; omega, Int.le_refl _⟩
  · rw [if_neg c]
    exact ⟨hG, ⟨rfl, rfl, rfl, rfl, rfl⟩, Int.le_refl _, by omega⟩
theorem lsI_i {x : Int × Vw} (hG : Good x.2) (hi : 0 ≤ i ∧ i ≤ nS x.2) : Good (lsI y i x).2 ∧ N5 x.2 (lsI y i x).2 ∧ x.1 ≤ (lsI y i x).1 ∧ (lsI y i x).1 ≤ x.1 + i := by
  have q := itR_inv (f := lsS y) (n := i.toNat) (i := 0) (s := x) (I := fun j z => Good z.2 ∧ N5 x.2 z.2 ∧ x.1 ≤ z.1 ∧ z.1 ≤ x.1 + j) (fun j z j1 j2 h => by
    have k := lsS_i (y := y) (s := j) h.1 (by rw [h.2.1.2.1]; omega)
    exact ⟨k.1, h.2.1.tr k.2.1, by omega, by omega⟩) ⟨hG, ⟨rfl, rfl, rfl, rfl, rfl⟩, Int.le_refl _, by omega⟩
  rw [show (0 : Int) + (i.toNat : Int) = i by omega] at q
  exact q
theorem lsO_i (hG : Good W) (hi : 0 ≤ i) : Good (lsO W i).2 ∧ N5 W (lsO W i).2 ∧ 0 ≤ (lsO W i).1 ∧ (lsO W i).1 ≤ 10 * i := by
  have b := hG.1.z
  have q := itR_inv (f := lsT) (n := i.toNat) (i := 0) (s := (0, W)) (I := fun j z => Good z.2 ∧ N5 W z.2 ∧ 0 ≤ z.1 ∧ z.1 ≤ 10 * j) (fun j z j1 j2 h => by
    have k := lsI_i (y := 8 - j) (i := nS z.2) h.1 ⟨by rw [h.2.1.2.1]; omega, Int.le_refl _⟩
    have e := h.2.1.2.1
    show Good (lsI (8 - j) (nS z.2) z).2 ∧ N5 W (lsI (8 - j) (nS z.2) z).2 ∧ 0 ≤ (lsI (8 - j) (nS z.2) z).1 ∧ (lsI (8 - j) (nS z.2) z).1 ≤ 10 * (j + 1)
    exact ⟨k.1, h.2.1.tr k.2.1, by omega, by omega⟩) ⟨hG, ⟨rfl, rfl, rfl, rfl, rfl⟩, Int.le_refl _, by omega⟩
  rw [show (0 : Int) + (i.toNat : Int) = i by omega] at q
  exact q
theorem S_layFirst (h : PT S 5 W) (hG : Good W) (hs : 0 ≤ s ∧ s < nS W) : (fsL W s = -1 ∧ fn_Searches_layFirst 505 s S = some (false, S)) ∨ (fsL W s ≠ -1 ∧ ∃ S', fn_Searches_layFirst 505 s S = some (true, S') ∧ Off S S' 7 33 ∧ PT S' 5 (up W 11 s.toNat (fsL W s))) := by
  have b := h.pl.b
  have re : ∀ q, 1 ≤ q → q ≤ pgs W → layR W s q = 0 → ∃ S', fn_Plan_recount 5 (u S 20 s.toNat q) = some S' ∧ Off S S' 7 33 ∧ PT S' 5 (up W 11 s.toNat q) := fun q q1 q2 q3 => by
    have hG' := Good_setS hG hs (.inr q3)
    have v : vC (u S 20 s.toNat q) 6 = up W 11 s.toNat q := K_vS (k := 11) (by decide) h.pl.1.2.1 hs ⟨by omega, by omega⟩
    have o : Off S (u S 20 s.toNat q) 7 28 := Off.wt (by omega) (by omega)
    obtain ⟨S3, e3, o3, p3⟩ := P_recount (h.pl.upd (by decide) v hG'.1 o) hG'.2.1
    exact ⟨S3, e3, (o.mono (by omega) (by omega)).trans (o3.mono (by omega) (by omega)), p3⟩
  have q := lp_fst (body := fun go p0 => lb_Searches_layFirst_2 505 s S go p0) (fun q => decide (layR W s q = 0)) (fun q => (true, (fn_Plan_recount 5 (u S 20 s.toNat q)).getD S)) 1 (pgs W + 1)
    (fun go i hi => by
      show lb_Searches_layFirst_2 505 s S go i = _
      unfold lb_Searches_layFirst_2
      rw [tg_505_0, h.pl.gp, if_pos (by omega)])
    (fun go i h1 hi => by
      show lb_Searches_layFirst_2 505 s S go i = _
      unfold lb_Searches_layFirst_2
      rw [tg_505_0, h.pl.gp, if_neg (by omega), P_layReason h hs ⟨by omega, by omega⟩, bnO_s, nm_x, wr_s (by omega) (by omega)]
      by_cases d : layR W s i = 0
      · obtain ⟨S', e, -, -⟩ := re i h1 (by omega) d
        rw [if_pos d, if_pos (decide_eq_true d), if_pos (by omega : 0 ≤ s ∧ s < 10), tg_505_1, tg_6_1, tg_15_4, e, bnO_s]
        rfl
      · rw [if_neg d, if_neg (by rw [decide_eq_true_eq]; exact d), nm_x]) (n := FU) (by omega) (FU_lt (by omega))
  have q2 : lo_Searches_layFirst_2 505 s S FU 1 = _ := q
  rw [show (pgs W + 1 - 1).toNat = (pgs W).toNat by omega] at q2
  unfold fn_Searches_layFirst
  rw [q2]
  rcases fsL_spec (W := W) (s := s) h.v with c | ⟨c1, c2⟩
  · refine .inl ⟨c, ?_⟩
    have c' : fstR (fun q => decide (layR W s q = 0)) 1 (pgs W).toNat = -1 := c
    rw [if_pos c', bnS_r]
  · have c0 : fsL W s ≠ -1 := by omega
    have c' : ¬ fstR (fun q => decide (layR W s q = 0)) 1 (pgs W).toNat = -1 := c0
    obtain ⟨S', e, o, p⟩ := re (fsL W s) c1.1 c1.2 c2
    refine .inr ⟨c0, S', ?_, o, p⟩
    have e' : fn_Plan_recount 5 (u S 20 s.toNat (fstR (fun q => decide (layR W s q = 0)) 1 (pgs W).toNat)) = some S' := e
    rw [if_neg c', bnS_l, e']
    rfl
theorem S_lsInner {x : Int × Vw} (h : PT S 5 x.2) (hG : Good x.2) (hx : 0 ≤ x.1 ∧ x.1 ≤ 1000) : ∃ S', lo_Searches_layFreeStories_12 505 y FU (x.1, 0, S) = some ((lsI y (nS x.2) x).1, S') ∧ Off S S' 7 33 ∧ PT S' 5 (lsI y (nS x.2) x).2 := by
  have b := hG.1.z
  obtain ⟨⟨c, S'⟩, e, hI⟩ := lp_inv (body := fun go p0 => lb_Searches_layFreeStories_12 505 y go p0.1 p0.2.1 p0.2.2) (fun i (s : Int × St) => (s.1, i, s.2)) (fun s => s)
    (fun i s => 0 ≤ i ∧ s.1 = (lsI y i x).1 ∧ Off S s.2 7 33 ∧ PT s.2 5 (lsI y i x).2) (nS x.2)
    (fun go i s hI hi => by
      have e7 : g s.2 15 5 = nS (lsI y i x).2 := hI.2.2.2.pl.mS
      rw [lsI_nS] at e7
      show lb_Searches_layFreeStories_12 505 y go s.1 i s.2 = _
      unfold lb_Searches_layFreeStories_12
      rw [tg_505_1, tg_6_1, e7, if_pos hi])
    (fun go i s hI hi => by
      obtain ⟨h0, h1, h2, h3⟩ := hI
      have k := lsI_i (y := y) (i := i) hG ⟨h0, by omega⟩
      have sn := lsI_s (y := y) (x := x) h0
      rw [sn]
      obtain ⟨z, hz⟩ : ∃ z, z = lsI y i x := ⟨_, rfl⟩
      rw [← hz] at k h1 h3 ⊢
      have hsr : 0 ≤ i ∧ i < nS z.2 := ⟨h0, by rw [k.2.1.2.1]; exact hi⟩
      have e7 : g s.2 15 5 = nS x.2 := by rw [← k.2.1.2.1]; exact h3.pl.mS
      have e0 : g s.2 16 i.toNat = at_ z.2 7 i := h3.pl.s0 hsr
      have e4 : g s.2 20 i.toNat = at_ z.2 11 i := h3.pl.s4 hsr
      by_cases c1 : at_ z.2 7 i = y
      · by_cases c2 : at_ z.2 11 i = 0
        · rcases S_layFirst h3 k.1 hsr with ⟨f1, f2⟩ | ⟨f1, S1, f2, f3, f4⟩
          · have es : lsS y i z = z := by unfold lsS; rw [if_neg (fun w => w.2.2 f1)]
            rw [es]
            refine ⟨s, ?_, by omega, h1, h2, h3⟩
            show lb_Searches_layFreeStories_12 505 y go s.1 i s.2 = go (s.1, i + 1, s.2)
            unfold lb_Searches_layFreeStories_12
            rw [tg_505_1, tg_6_1, e7, if_neg (by omega), if_pos (by omega : 0 ≤ i ∧ i < 10), tg_15_0, tg_15_4, e0, if_pos c1, e4, if_pos c2, f2, bnO_s, if_neg Bool.false_ne_true, nm_x, wr_s (z := i + 1) (by omega) (by omega)]
          · have es : lsS y i z = (z.1 + 1, up z.2 11 i.toNat (fsL z.2 i)) := by unfold lsS; rw [if_pos ⟨c1, c2, f1⟩]
            rw [es]
            refine ⟨(s.1 + 1, S1), ?_, by omega, by rw [h1], h2.trans f3, f4⟩
            show lb_Searches_layFreeStories_12 505 y go s.1 i s.2 = go (s.1 + 1, i + 1, S1)
            unfold lb_Searches_layFreeStories_12
            rw [tg_505_1, tg_6_1, e7, if_neg (by omega), if_pos (by omega : 0 ≤ i ∧ i < 10), tg_15_0, tg_15_4, e0, if_pos c1, e4, if_pos c2, f2, bnO_s, if_pos rfl, nm_x, nm_x, wr_s (z := s.1 + 1) (by omega) (by omega), wr_s (z := i + 1) (by omega) (by omega)]
        · have es : lsS y i z = z := by unfold lsS; rw [if_neg (fun w => c2 w.2.1)]
          rw [es]
          refine ⟨s, ?_, by omega, h1, h2, h3⟩
          show lb_Searches_layFreeStories_12 505 y go s.1 i s.2 = go (s.1, i + 1, s.2)
          unfold lb_Searches_layFreeStories_12
          rw [tg_505_1, tg_6_1, e7, if_neg (by omega), if_pos (by omega : 0 ≤ i ∧ i < 10), tg_15_0, tg_15_4, e0, if_pos c1, e4, if_neg c2, nm_x, wr_s (z := i + 1) (by omega) (by omega)]
      · have es : lsS y i z = z := by unfold lsS; rw [if_neg (fun w => c1 w.1)]
        rw [es]
        refine ⟨s, ?_, by omega, h1, h2, h3⟩
        show lb_Searches_layFreeStories_12 505 y go s.1 i s.2 = go (s.1, i + 1, s.2)
        unfold lb_Searches_layFreeStories_12
        rw [tg_505_1, tg_6_1, e7, if_neg (by omega), if_pos (by omega : 0 ≤ i ∧ i < 10), tg_15_0, e0, if_neg c1, nm_x, wr_s (z := i + 1) (by omega) (by omega)])
    (nS x.2 - 0).toNat FU 0 (x.1, S) ⟨Int.le_refl _, rfl, Off.refl, h⟩ (by omega) rfl (FU_lt (by omega))
  have hc : c = (lsI y (nS x.2) x).1 := hI.2.1
  refine ⟨S', ?_, hI.2.2⟩
  rw [← hc]
  exact e
theorem S_lay (h : PT S 5 W) (hG : Good W) : ∃ S', fn_Searches_layFreeStories 505 S = some ((lsO W 8).1, S') ∧ Off S S' 7 33 ∧ PT S' 5 (lsO W 8).2 := by
  obtain ⟨⟨c, S'⟩, e, hI⟩ := lp_inv (body := fun go p0 => lb_Searches_layFreeStories_5 505 go p0.1 p0.2.1 p0.2.2) (fun j (s : Int × St) => (s.1, 8 - j, s.2)) (fun s => s)
    (fun j s => 0 ≤ j ∧ s.1 = (lsO W j).1 ∧ Off S s.2 7 33 ∧ PT s.2 5 (lsO W j).2) 8
    (fun go j s hI hj => by
      show lb_Searches_layFreeStories_5 505 go s.1 (8 - j) s.2 = _
      unfold lb_Searches_layFreeStories_5
      rw [if_pos (by omega)])
    (fun go j s hI hj => by
      obtain ⟨h0, h1, h2, h3⟩ := hI
      have k := lsO_i hG h0
      have sn := lsO_s (W := W) h0
      rw [sn]
      obtain ⟨z, hz⟩ : ∃ z, z = lsO W j := ⟨_, rfl⟩
      rw [← hz] at k h1 h3 ⊢
      obtain ⟨S1, e1, o1, t1⟩ := S_lsInner (y := 8 - j) h3 k.1 (by omega)
      rw [← h1] at e1
      refine ⟨((lsI (8 - j) (nS z.2) z).1, S1), ?_, by omega, rfl, h2.trans o1, t1⟩
      show lb_Searches_layFreeStories_5 505 go s.1 (8 - j) s.2 = go ((lsI (8 - j) (nS z.2) z).1, 8 - (j + 1), S1)
      unfold lb_Searches_layFreeStories_5
      rw [if_neg (by omega), e1, bnO_s, nm_x, wr_s (by omega) (by omega), show 8 - j + -1 = 8 - (j + 1) by omega])
    ((8 : Int) - 0).toNat FU 0 (0, S) ⟨Int.le_refl _, rfl, Off.refl, h⟩ (by decide) rfl (FU_lt (by omega))
  have hc : c = (lsO W 8).1 := hI.2.1
  have e' : lo_Searches_layFreeStories_5 505 FU (0, 8, S) = some (c, S') := e
  refine ⟨S', ?_, hI.2.2⟩
  unfold fn_Searches_layFreeStories
  rw [e', bnO_s, hc]
end LayStories

