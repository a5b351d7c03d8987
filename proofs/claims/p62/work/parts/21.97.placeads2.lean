/-! placeAds: the two answers -/
section PlaceAds2
variable {W V : Vw} {S S' T0 T : St} {a b i j k n t : Int} {hs : Int → Vw} {w : Int → Int} {P : Int → Bool}
theorem fstP_spec (hV : Val W) : fstP W a 1 = -1 ∨ ((1 ≤ fstP W a 1 ∧ fstP W a 1 ≤ pgs W) ∧ reas W a (fstP W a 1) = 0) := by
  have b := hV.pg
  have e : fstP W a 1 = fstR (fun q => decide (reas W a q = 0)) 1 (pgs W + 1 - 1).toNat := rfl
  rw [e]
  rcases fstR_spec (p := fun q => decide (reas W a q = 0)) (n := (pgs W + 1 - 1).toNat) (i := 1) (by decide) with q | q
  · exact .inl q.1
  · have q3 := of_decide_eq_true q.2.2.1
    exact .inr ⟨⟨q.1, by have := q.2.1; omega⟩, q3⟩
def plS (w : Int → Int) (j : Int) (x : Int × Vw) : Int × Vw := if fstP x.2 (w j) 1 = -1 then x else (x.1 + 1, up x.2 6 (w j).toNat (fstP x.2 (w j) 1))
def plN (W : Vw) (w : Int → Int) (j : Int) : Int × Vw := itR (plS w) 0 j.toNat (0, W)
theorem plN_s (hi : 0 ≤ i) : plN W w (i + 1) = plS w i (plN W w i) := by
  unfold plN
  rw [show (i + 1).toNat = i.toNat + 1 by omega, itR_snoc, show (0 : Int) + (i.toNat : Int) = i by omega]
theorem plN_i (hG : Good W) (hi : 0 ≤ i ∧ i ≤ k) (hw : ∀ j, 0 ≤ j → j < k → 0 ≤ w j ∧ w j < nA W) : Good (plN W w i).2 ∧ N5 W (plN W w i).2 ∧ (0 ≤ (plN W w i).1 ∧ (plN W w i).1 ≤ i) ∧ ∀ (c : Nat) x, c < 6 → at_ (plN W w i).2 c x = at_ W c x := by
  have q := itR_inv (f := plS w) (n := i.toNat) (i := 0) (s := (0, W)) (I := fun j z => Good z.2 ∧ N5 W z.2 ∧ (0 ≤ z.1 ∧ z.1 ≤ j) ∧ ∀ (c : Nat) x, c < 6 → at_ z.2 c x = at_ W c x) (fun j z j1 j2 h => by
    obtain ⟨h1, h2, h3, h4⟩ := h
    have wj := hw j j1 (by omega)
    rcases fstP_spec (W := z.2) (a := w j) h1.1 with d | ⟨d1, d2⟩
    · have e : plS w j z = z := by unfold plS; rw [if_pos d]
      rw [e]
      exact ⟨h1, h2, by omega, h4⟩
    · have e : plS w j z = (z.1 + 1, up z.2 6 (w j).toNat (fstP z.2 (w j) 1)) := by unfold plS; rw [if_neg (by omega)]
      rw [e]
      refine ⟨Good_put h1 (by rw [h2.1]; exact wj) d2, h2.tr (N5_up (by decide)), ⟨by show 0 ≤ z.1 + 1; omega, by show z.1 + 1 ≤ j + 1; omega⟩, fun c x hc => ?_⟩
      show at_ (up z.2 6 (w j).toNat (fstP z.2 (w j) 1)) c x = _
      rw [at_upn (by omega)]
      exact h4 c x hc) ⟨hG, ⟨rfl, rfl, rfl, rfl, rfl⟩, ⟨Int.le_refl _, Int.le_refl _⟩, fun _ _ _ => rfl⟩
  rw [show (0 : Int) + (i.toNat : Int) = i by omega] at q
  exact q
theorem S_place (h : PT S 5 W) (hG : Good W) (hk : 0 ≤ k ∧ k ≤ nA W) (hw : ∀ j, 0 ≤ j → j < k → 0 ≤ w j ∧ w j < nA W) (hr : ∀ j : Int, 0 ≤ j → j < k → g S 506 j.toNat = w j) : ∃ S', lo_Searches_placeFreeAds_52 505 k FU (0, 0, S) = some ((plN W w k).1, S') ∧ Off S S' 7 33 ∧ PT S' 5 (plN W w k).2 := by
  have b := hG.1.z
  obtain ⟨⟨c, S'⟩, e, hI⟩ := lp_inv (body := fun go p0 => lb_Searches_placeFreeAds_52 505 k go p0.1 p0.2.1 p0.2.2) (fun i (s : Int × St) => (s.1, i, s.2)) (fun s => s)
    (fun i s => 0 ≤ i ∧ s.1 = (plN W w i).1 ∧ Off S s.2 7 33 ∧ PT s.2 5 (plN W w i).2) k
    (fun go i s hI hi => by
      show lb_Searches_placeFreeAds_52 505 k go s.1 i s.2 = _
      unfold lb_Searches_placeFreeAds_52
      rw [if_pos hi])
    (fun go i s hI hi => by
      obtain ⟨h0, h1, h2, h3⟩ := hI
      have m := plN_i hG (i := i) ⟨h0, by omega⟩ hw
      have wi := hw i h0 hi
      have sn := plN_s (W := W) (w := w) h0
      rw [sn]
      obtain ⟨z, hz⟩ : ∃ z, z = plN W w i := ⟨_, rfl⟩
      rw [← hz] at m h1 h3 ⊢
      have er : g s.2 506 i.toNat = w i := by rw [h2.rd (by omega)]; exact hr i h0 hi
      have wz : 0 ≤ w i ∧ w i < nA z.2 := by rw [m.2.1.1]; exact wi
      have ef := P_firstFor h3 wz (p := 1) in1
      have pb := m.1.1.pg
      rcases fstP_spec (W := z.2) (a := w i) m.1.1 with d | ⟨d1, d2⟩
      · have es : plS w i z = z := by unfold plS; rw [if_pos d]
        rw [es]
        refine ⟨s, ?_, by omega, h1, h2, h3⟩
        show lb_Searches_placeFreeAds_52 505 k go s.1 i s.2 = go (s.1, i + 1, s.2)
        unfold lb_Searches_placeFreeAds_52
        rw [if_neg (by omega), if_pos (by omega : 0 ≤ i ∧ i < 40), tg_505_0, tg_505_2, er, ef, bnO_s, if_pos d, nm_x, wr_s (z := i + 1) (by omega) (by omega)]
      · have d0 : fstP z.2 (w i) 1 ≠ -1 := by omega
        have es : plS w i z = (z.1 + 1, up z.2 6 (w i).toNat (fstP z.2 (w i) 1)) := by unfold plS; rw [if_neg d0]
        have hG' := Good_put m.1 wz d2
        have v : vC (u s.2 14 (w i).toNat (fstP z.2 (w i) 1)) 6 = up z.2 6 (w i).toNat (fstP z.2 (w i) 1) := K_vA (k := 6) (by decide) h3.pl.1.2.1 wz ⟨by omega, by omega⟩
        have o : Off s.2 (u s.2 14 (w i).toNat (fstP z.2 (w i) 1)) 7 28 := Off.wt (by omega) (by omega)
        obtain ⟨S3, e3, o3, p3⟩ := P_recount (h3.pl.upd (by decide) v hG'.1 o) hG'.2.1
        rw [es]
        refine ⟨(s.1 + 1, S3), ?_, by omega, by rw [h1], (h2.trans (o.mono (by omega) (by omega))).trans (o3.mono (by omega) (by omega)), p3⟩
        show lb_Searches_placeFreeAds_52 505 k go s.1 i s.2 = go (s.1 + 1, i + 1, S3)
        unfold lb_Searches_placeFreeAds_52
        rw [if_neg (by omega), if_pos (by omega : 0 ≤ i ∧ i < 40), tg_505_0, tg_505_2, er, ef, bnO_s, if_neg d0, if_pos (by omega : 0 ≤ w i ∧ w i < 40), nm_x, tg_505_1, tg_6_0, tg_7_6, e3, bnO_s, nm_x, nm_x, wr_s (z := s.1 + 1) (by omega) (by omega), wr_s (z := i + 1) (by omega) (by omega)])
    (k - 0).toNat FU 0 (0, S) ⟨Int.le_refl _, rfl, Off.refl, h⟩ hk.1 rfl (FU_lt (by omega))
  have hc : c = (plN W w k).1 := hI.2.1
  refine ⟨S', ?_, hI.2.2⟩
  rw [← hc]
  exact e
/-- of the asked ads: 0 stands at those from t on -/
def AskR (W : Vw) (T : St) (w : Int → Int) (k t : Int) : Prop := ∀ x : Int, 0 ≤ x → x < 40 → (g T 516 x.toNat = 0 ↔ ∃ i, (t ≤ i ∧ i < k) ∧ w i = x)
theorem M_select {x1 : Int} (hM : MV T V) (hn : nA V = nA W) (hv : ∀ (c : Nat) x, c < 6 → at_ V c x = at_ W c x) (hl : LstP W w k P) (ht : 0 ≤ t ∧ t ≤ k) (hA : AskR W T w k t) : lo_Mo_placeAds_60 514 x1 T FU (-1, 0) = some (if t < k then w t else -1) := by
  have b := hM.b
  have eah : ∀ x y, ahP V x y ↔ ahP W x y := fun x y => by
    unfold ahP
    rw [hv 4 x (by decide), hv 4 y (by decide), hv 0 x (by decide), hv 0 y (by decide)]
  have inU : ∀ x : Int, 0 ≤ x → x < 40 → g T 516 x.toNat = 0 → 0 ≤ x ∧ x < nA V := fun x x0 x1 hx => by
    obtain ⟨i, ib, iw⟩ := (hA x x0 x1).mp hx
    have := (hl.1 i (by omega) ib.2).1
    rw [hn, ← iw]; exact this
  obtain ⟨s, e, hI⟩ := lp_inv (body := fun go p0 => lb_Mo_placeAds_60 514 x1 T go p0.1 p0.2) (fun i (s : Int) => (s, i)) (fun s => s)
    (fun i s => 0 ≤ i ∧ ((s = -1 ∧ ∀ x : Int, 0 ≤ x → x < i → g T 516 x.toNat ≠ 0) ∨ ((0 ≤ s ∧ s < i ∧ s < 40) ∧ g T 516 s.toNat = 0 ∧ ∀ x : Int, 0 ≤ x → x < i → g T 516 x.toNat = 0 → x = s ∨ ahP W s x))) 40
    (fun go i s hI hi => by
      show lb_Mo_placeAds_60 514 x1 T go s i = _
      unfold lb_Mo_placeAds_60
      rw [if_pos hi])
    (fun go i s hI hi => by
      obtain ⟨h0, h1⟩ := hI
      by_cases c : g T 516 i.toNat = 0
      · rcases h1 with ⟨s1, s2⟩ | ⟨s1, s2, s3⟩
        · refine ⟨i, ?_, by omega, .inr ⟨⟨h0, by omega, hi⟩, c, fun x x0 x1 hx => ?_⟩⟩
          · show lb_Mo_placeAds_60 514 x1 T go s i = go (i, i + 1)
            unfold lb_Mo_placeAds_60
            rw [if_neg (by omega), if_pos (by omega : 0 ≤ i ∧ i < 40), tg_514_5, if_pos c, if_pos s1, nm_x, wr_s (z := i + 1) (by omega) (by omega)]
          · by_cases z : x = i
            · exact .inl z
            · exact absurd hx (s2 x x0 (by omega))
        · have iU := inU i h0 hi c
          have sU := inU s s1.1 s1.2.2 s2
          rcases M_ahead hM iU sU with ⟨d, ed⟩ | ⟨d, ed⟩
          · refine ⟨i, ?_, by omega, .inr ⟨⟨h0, by omega, hi⟩, c, fun x x0 x1 hx => ?_⟩⟩
            · show lb_Mo_placeAds_60 514 x1 T go s i = go (i, i + 1)
              unfold lb_Mo_placeAds_60
              rw [if_neg (by omega), if_pos (by omega : 0 ≤ i ∧ i < 40), tg_514_5, if_pos c, if_neg (by omega), ed, bnO_s, if_pos rfl, nm_x, wr_s (z := i + 1) (by omega) (by omega)]
            · by_cases z : x = i
              · exact .inl z
              · rcases s3 x x0 (by omega) hx with y | y
                · rw [y]; exact .inr ((eah _ _).mp d)
                · exact .inr (ahP_tr ((eah _ _).mp d) y)
          · refine ⟨s, ?_, by omega, .inr ⟨⟨s1.1, by omega, s1.2.2⟩, s2, fun x x0 x1 hx => ?_⟩⟩
            · show lb_Mo_placeAds_60 514 x1 T go s i = go (s, i + 1)
              unfold lb_Mo_placeAds_60
              rw [if_neg (by omega), if_pos (by omega : 0 ≤ i ∧ i < 40), tg_514_5, if_pos c, if_neg (by omega), ed, bnO_s, if_neg Bool.false_ne_true, nm_x, wr_s (z := i + 1) (by omega) (by omega)]
            · by_cases z : x = i
              · rw [z]; exact .inr ((eah _ _).mp (ahP_tot d (by omega)))
              · exact s3 x x0 (by omega) hx
      · refine ⟨s, ?_, by omega, ?_⟩
        · show lb_Mo_placeAds_60 514 x1 T go s i = go (s, i + 1)
          unfold lb_Mo_placeAds_60
          rw [if_neg (by omega), if_pos (by omega : 0 ≤ i ∧ i < 40), tg_514_5, if_neg c, nm_x, wr_s (z := i + 1) (by omega) (by omega)]
        · rcases h1 with ⟨s1, s2⟩ | ⟨s1, s2, s3⟩
          · refine .inl ⟨s1, fun x x0 x1 => ?_⟩
            by_cases z : x = i
            · rw [z]; exact c
            · exact s2 x x0 (by omega)
          · refine .inr ⟨⟨s1.1, by omega, s1.2.2⟩, s2, fun x x0 x1 hx => ?_⟩
            by_cases z : x = i
            · rw [z] at hx; exact absurd hx c
            · exact s3 x x0 (by omega) hx)
    ((40 : Int) - 0).toNat FU 0 (-1) ⟨Int.le_refl _, .inl ⟨rfl, fun x x0 x1 => by omega⟩⟩ (by decide) rfl (FU_lt (by omega))
  have e' : lo_Mo_placeAds_60 514 x1 T FU (-1, 0) = some s := e
  rw [e']
  congr 1
  by_cases c : t < k
  · rw [if_pos c]
    have wt := (hl.1 t ht.1 c).1
    have ut := (hA (w t) wt.1 (by omega)).mpr ⟨t, ⟨Int.le_refl _, c⟩, rfl⟩
    rcases hI.2 with ⟨s1, s2⟩ | ⟨s1, s2, s3⟩
    · exact absurd ut (s2 _ wt.1 (by omega))
    · obtain ⟨i, ib, iw⟩ := (hA s s1.1 s1.2.2).mp s2
      by_cases z : i = t
      · rw [← iw, z]
      · have o := hl.2.1 t i ht.1 (by omega) ib.2
        rw [iw] at o
        rcases s3 _ wt.1 (by omega) ut with y | y
        · exact y.symm
        · exact absurd rfl (ahP_ne (ahP_tr o y))
  · rw [if_neg c]
    rcases hI.2 with ⟨s1, -⟩ | ⟨s1, s2, -⟩
    · exact s1
    · obtain ⟨i, ib, -⟩ := (hA s s1.1 s1.2.2).mp s2
      omega
theorem M_place (hG : Good W) (hk : 0 ≤ k ∧ k ≤ nA W) (hl : LstP W w k P) : ∀ (m : Nat) (t : Int) (T : St) (f : Nat), k - t ≤ m → 0 ≤ t → t ≤ k → m < f → RM T0 T (plN W w t).2 n hs → AskR W T w k t → ∃ T', lp (fun go p0 => lb_Mo_placeAds_56 514 go p0.1 p0.2) f ((plN W w t).1, T) = some ((plN W w k).1, T') ∧ RM T0 T' (plN W w k).2 n hs
  | m, t, T, f + 1, h1, h2, h3, h4, hR, hA => by
    have b := hG.1.z
    have hw := fun j j0 j1 => (hl.1 j j0 j1).1
    have mi := plN_i hG (i := t) ⟨h2, h3⟩ hw
    have sel := M_select (x1 := (plN W w t).1) hR.2.2.1 mi.2.1.1 mi.2.2.2 hl ⟨h2, h3⟩ hA
    rw [lp_succ]
    show ∃ T', lb_Mo_placeAds_56 514 (lp (fun go p0 => lb_Mo_placeAds_56 514 go p0.1 p0.2) f) (plN W w t).1 T = _ ∧ _
    by_cases c : t = k
    · rw [if_neg (by omega)] at sel
      refine ⟨T, ?_, by rw [← c]; exact hR⟩
      unfold lb_Mo_placeAds_56
      rw [sel, bnO_s, if_pos rfl, c]
    · rw [if_pos (by omega)] at sel
      have wt := hw t h2 (by omega)
      have sn := plN_s (W := W) (w := w) h2
      obtain ⟨z, hz⟩ : ∃ z, z = plN W w t := ⟨_, rfl⟩
      rw [← hz] at mi sel hR sn ⊢
      obtain ⟨T1, hT1⟩ : ∃ T1, T1 = u T 516 (w t).toNat 1 := ⟨_, rfl⟩
      have o1 : Off T T1 516 517 := by rw [hT1]; exact Off.wt (by omega) (by omega)
      have r1 : RM T0 T1 z.2 n hs := hR.o6 (o1.mono (by omega) (by omega))
      have A1 : AskR W T1 w k (t + 1) := fun x x0 x1 => by
        rw [hT1]
        by_cases y : x = w t
        · rw [y, g_eq, wr_s (by decide) (by decide)]
          refine ⟨fun q => absurd q (by decide), fun ⟨i, ib, iw⟩ => ?_⟩
          exact absurd iw.symm (ahP_ne (hl.2.1 t i h2 (by omega) ib.2))
        · rw [g_ne (by omega)]
          refine (hA x x0 x1).trans ⟨fun ⟨i, ib, iw⟩ => ⟨i, ⟨?_, ib.2⟩, iw⟩, fun ⟨i, ib, iw⟩ => ⟨i, ⟨by omega, ib.2⟩, iw⟩⟩
          by_cases q : i = t
          · rw [q] at iw; exact absurd iw.symm y
          · omega
      have wz : 0 ≤ w t ∧ w t < nA z.2 := by rw [mi.2.1.1]; exact wt
      have ef := Mo_firstOf r1.2.2.1 wz (p := 1) in1
      have pb := mi.1.1.pg
      obtain ⟨m', rfl⟩ : ∃ m', m = m' + 1 := ⟨m - 1, by omega⟩
      rcases fstP_spec (W := z.2) (a := w t) mi.1.1 with d | ⟨d1, d2⟩
      · have es : plS w t z = z := by unfold plS; rw [if_pos d]
        rw [es] at sn
        obtain ⟨T', e, r⟩ := M_place hG hk hl m' (t + 1) T1 f (by omega) (by omega) (by omega) (by omega) (by rw [sn]; exact r1) A1
        rw [sn] at e
        refine ⟨T', ?_, r⟩
        unfold lb_Mo_placeAds_56
        rw [sel, bnO_s, if_neg (by omega), if_pos (by omega : 0 ≤ w t ∧ w t < 40), nm_x, tg_514_5, i_nz1, ← hT1, ef, bnO_s, if_pos d]
        exact e
      · have d0 : fstP z.2 (w t) 1 ≠ -1 := by omega
        have es : plS w t z = (z.1 + 1, up z.2 6 (w t).toNat (fstP z.2 (w t) 1)) := by unfold plS; rw [if_neg d0]
        rw [es] at sn
        have hG' := Good_put mi.1 wz d2
        obtain ⟨T2, e2, r2⟩ := r1.ad (k := 6) (by decide) wz (z := fstP z.2 (w t) 1) ⟨by omega, by omega⟩ hG'.1
        have e2' : fn_Mo_setOfAd 514 (w t) 6 (fstP z.2 (w t) 1) T1 = some T2 := e2
        have A2 : AskR W T2 w k (t + 1) := fun x x0 x1 => by
          have e516 : g T2 516 x.toNat = g T1 516 x.toNat := by
            have na := nA W
            unfold fn_Mo_setOfAd at e2'
            rw [if_pos (by omega), tg_514_0] at e2'
            have e3 : u T1 515 (29 + 7 * w t + 6).toNat (fstP z.2 (w t) 1) = T2 := Option.some.inj e2'
            rw [← e3, g_ne (by omega)]
          rw [e516]
          exact A1 x x0 x1
        obtain ⟨T', e, r⟩ := M_place hG hk hl m' (t + 1) T2 f (by omega) (by omega) (by omega) (by omega) (by rw [sn]; exact r2) A2
        rw [sn] at e
        refine ⟨T', ?_, r⟩
        unfold lb_Mo_placeAds_56
        rw [sel, bnO_s, if_neg (by omega), if_pos (by omega : 0 ≤ w t ∧ w t < 40), nm_x, tg_514_5, i_nz1, ← hT1, ef, bnO_s, if_neg d0, e2', bnO_s, nm_x, wr_s (z := z.1 + 1) (by omega) (by omega)]
        exact e
theorem M_asked (hM : MV T W) : ∃ T', lo_Mo_placeAds_11 514 FU (0, T) = some T' ∧ Off T T' 516 517 ∧ ∀ x : Int, 0 ≤ x → x < 40 → g T' 516 x.toNat = if frA W (nA W) x = true then 0 else 1 := by
  have b := hM.b
  obtain ⟨T', e, hI⟩ := lp_inv (body := fun go p0 => lb_Mo_placeAds_11 514 go p0.1 p0.2) (fun i (s : St) => (i, s)) (fun s => s)
    (fun i s => 0 ≤ i ∧ Off T s 516 517 ∧ ∀ x : Int, 0 ≤ x → x < i → g s 516 x.toNat = if frA W (nA W) x = true then 0 else 1) 40
    (fun go i s hI hi => by
      show lb_Mo_placeAds_11 514 go i s = _
      unfold lb_Mo_placeAds_11
      rw [if_pos hi])
    (fun go i s hI hi => by
      obtain ⟨h0, h1, h2⟩ := hI
      have hM' : MV s W := hM.o6 (h1.mono (by omega) (by omega))
      obtain ⟨v, hv⟩ : ∃ v : Int, v = if frA W (nA W) i = true then 0 else 1 := ⟨_, rfl⟩
      refine ⟨u s 516 i.toNat v, ?_, by omega, h1.tu (by omega) (by omega), fun x x0 x1 => ?_⟩
      · show lb_Mo_placeAds_11 514 go i s = go (i + 1, u s 516 i.toNat v)
        unfold lb_Mo_placeAds_11
        rw [if_neg (by omega), tg_514_0, hM'.mA, tg_514_5, i_nz1, i_nz0]
        by_cases c1 : nA W ≤ i
        · have ev : v = 1 := by rw [hv, if_neg (fun q => by have := of_decide_eq_true q; omega)]
          rw [if_pos c1, if_pos (by omega : 0 ≤ i ∧ i < 40), nm_x, nm_x, wr_s (z := i + 1) (by omega) (by omega), ev]
        · have e6 : fn_Mo_ofAd 514 i 6 s = some (at_ W 6 i) := Mo_ofAd hM' (k := 6) (by omega) ⟨h0, by omega⟩
          have va := hM.2.2.1 i h0 (by omega)
          rw [if_neg c1, e6, bnO_s]
          by_cases c2 : at_ W 6 i ≤ 0
          · have f1 : frA W (nA W) i = true := decide_eq_true ⟨h0, by omega, by omega⟩
            have ev : v = 0 := by rw [hv, if_pos f1]
            rw [if_pos c2, if_pos (by omega : 0 ≤ i ∧ i < 40), nm_x, nm_x, wr_s (z := i + 1) (by omega) (by omega), ev]
          · have ev : v = 1 := by rw [hv, if_neg (fun q => by have := of_decide_eq_true q; omega)]
            rw [if_neg c2, if_pos (by omega : 0 ≤ i ∧ i < 40), nm_x, nm_x, wr_s (z := i + 1) (by omega) (by omega), ev]
      · by_cases z : x = i
        · rw [z, g_eq, ← hv]
          refine wr_s ?_ ?_ <;> rw [hv] <;> split <;> decide
        · rw [g_ne (by omega)]; exact h2 x x0 (by omega))
    ((40 : Int) - 0).toNat FU 0 T ⟨Int.le_refl _, Off.refl, fun x x0 x1 => by omega⟩ (by decide) rfl (FU_lt (by omega))
  exact ⟨T', e, hI.2.1, fun x x0 x1 => hI.2.2 x x0 x1⟩
theorem ok_placeAds (hI : Inv S) : ∃ r S1 S2, fn_FP_placeAds 0 S = some (r, S1) ∧ fn_Mo_placeAds 514 S1 = some (r, S2) ∧ Inv S2 := by
  obtain ⟨W, n, hs, hG, hH, hP⟩ := hI
  obtain ⟨S1, e1, c1⟩ := CR.keepG hP
  have b := hG.1.z
  obtain ⟨k, S2, e2, kb, o2, l2⟩ := S_order c1.2.1
  have c2 : CR S S2 W (hpn n) (hph n hs W) := ⟨c1.1.trans (o2.oc (by omega)), c1.2.1.off o2 (by omega), c1.2.2.off o2 (by omega)⟩
  obtain ⟨w, hw⟩ : ∃ w : Int → Int, w = fun i => g S2 506 i.toNat := ⟨_, rfl⟩
  rw [← hw] at l2
  obtain ⟨S3, e3, o3, t3⟩ := S_place (w := w) c2.2.1 hG kb (fun j j0 j1 => (l2.1 j j0 j1).1) (fun j _ _ => by rw [hw])
  have c3 := CR_off c2 (o3.mono (by omega) (by omega)) t3
  have m := plN_i hG (w := w) (i := k) (k := k) ⟨kb.1, Int.le_refl _⟩ (fun j j0 j1 => (l2.1 j j0 j1).1)
  have oc := c3.1
  obtain ⟨T1, f1, r1⟩ := (RM.begin (oc.mv hP.1.2) (oc.mo hP.2.1.2)).record hP.2.1.1.1 hH
  obtain ⟨T2, f2, o4, a2⟩ := M_asked r1.2.2.1
  have r2 := r1.o6 (o4.mono (by omega) (by omega))
  have A0 : AskR W T2 w k 0 := fun x x0 x1 => by
    rw [a2 x x0 x1]
    by_cases c : frA W (nA W) x = true
    · rw [if_pos c]
      have q := of_decide_eq_true c
      obtain ⟨i, ib, iw⟩ := l2.2.2 x x0 q.2.1 c
      exact ⟨fun _ => ⟨i, ib, iw⟩, fun _ => rfl⟩
    · rw [if_neg c]
      refine ⟨fun q => absurd q (by decide), fun ⟨i, ib, iw⟩ => ?_⟩
      have q := (l2.1 i ib.1 ib.2).2
      rw [iw] at q
      exact absurd q c
  obtain ⟨T3, f3, r3⟩ := M_place (w := w) (k := k) hG kb l2 100 0 T2 FU (by omega) (Int.le_refl _) kb.1 (FU_lt (by omega)) r2 A0
  refine ⟨(plN W w k).1, S3, T3, ?_, ?_, Inv.step hP m.1 (hH.push hG) oc t3 c3.2.2 (S1' := S3) Off.refl r3.1 r3.2.2.1 r3.2.2.2⟩
  · unfold fn_FP_placeAds fn_Searches_placeFreeAds
    rw [tg_0_4, tg_0_3, tg_5_0, e1, bnO_s, tg_0_2, e2, bnO_s]
    show bnO (bnO (lo_Searches_placeFreeAds_52 505 k FU (0, 0, S2)) _) _ = _
    rw [e3, bnO_s, bnO_s]
  · have f3' : lo_Mo_placeAds_56 514 FU (0, T2) = some ((plN W w k).1, T3) := f3
    unfold fn_Mo_placeAds
    rw [nm_x, f1, bnO_s, f2, bnO_s, f3', bnO_s]
end PlaceAds2
