/-! eviction, cheapestPage: the calls -/
section Evict5
variable {S T : St} {W : Vw} {n : Int} {hs : Int → Vw} {a p : Int}
theorem ok_eviction (hI : Inv S) {a y : Int} (hi_a : inR a) (hi_y : inR y) : ∃ e S1 r S2, fn_Law_eviction 0 a y 524 S = some (e, S1) ∧ fn_Mo_eviction 514 a y S1 = some (r, S2) ∧ Fin S2 e r := by
  obtain ⟨W, n, hs, hG, hH, hP⟩ := hI
  have h := hP.1.1
  by_cases c : 0 ≤ a ∧ a < nA W
  · by_cases c2 : 1 ≤ y ∧ y ≤ pgs W
    · obtain ⟨v, T, e1, o1, ev⟩ := ev_class h hG c c2
      have vb := ev.bd hG
      have cr : CR S T W n hs := ⟨o1.oc (by omega), h.off o1 (by omega), hP.2.1.1.off o1 (by omega)⟩
      have m0 := rm_out (r := v) hP cr
      have hM1 : MV (u (ul T 524 0 v) 514 4 0) W := m0.1.thr
      obtain ⟨v', T', e2, r2, ev'⟩ := ev_model (RM.begin m0.1 m0.2) hG c c2
      have ee : v' = v := ev'.uni hG ev
      subst ee
      refine ⟨0, ul T 524 0 v', v', T', ?_, ?_, fin2 hP hG hH cr ⟨by omega, by omega⟩ r2⟩
      · unfold fn_Law_eviction fn_FP_eviction
        rw [F_needAd h, if_pos c, bnO_s, if_pos rfl, F_needPage h, if_pos c2, bnO_s, if_pos rfl, tg_0_2, e1]; rfl
      · unfold fn_Mo_eviction
        rw [nm_x, Mo_isAd hM1, bnO_s, if_pos (decide_eq_true c), Mo_isPage hM1, bnO_s, if_pos (show isP W y = true from decide_eq_true c2), Mo_thr0, bnO_s, if_neg Bool.false_ne_true, e2, bnO_s]
    · refine ⟨1, S, 0, u (u S 514 4 0) 514 4 1, ?_, ?_, fin1 hG hH hP (.inl rfl)⟩
      · unfold fn_Law_eviction fn_FP_eviction
        rw [F_needAd h, if_pos c, bnO_s, if_pos rfl, F_needPage h, if_neg c2]; rfl
      · have hM1 : MV (u S 514 4 0) W := hP.1.2.thr
        unfold fn_Mo_eviction
        rw [nm_x, Mo_isAd hM1, bnO_s, if_pos (decide_eq_true c), Mo_isPage hM1, bnO_s, if_neg (show ¬ isP W y = true from fun q => c2 (of_decide_eq_true q)), Mo_thr1, bnO_s, if_pos rfl]
  · refine ⟨1, S, 0, u (u S 514 4 0) 514 4 1, ?_, ?_, fin1 hG hH hP (.inl rfl)⟩
    · unfold fn_Law_eviction fn_FP_eviction
      rw [F_needAd h, if_neg c]; rfl
    · have hM1 : MV (u S 514 4 0) W := hP.1.2.thr
      unfold fn_Mo_eviction
      rw [nm_x, Mo_isAd hM1, bnO_s, if_neg (by rw [decide_eq_true_eq]; exact c), Mo_thr1, bnO_s, if_pos rfl]
/-- one page -/
def cpF (e : Int → Int) (p : Int) (z : Int × Int) : Int × Int := if e p = -1 then z else if e p < z.2 then (p, e p) else z
theorem cp_class (h : PT S 5 W) (hG : Good W) (ha : 0 ≤ a ∧ a < nA W) {e : Int → Int} (he : ∀ p, 1 ≤ p → p ≤ pgs W → EvV W a p (e p)) : ∃ T, fn_Searches_cheapestFor 505 a S = some ((itR (cpF e) 1 (pgs W + 1 - 1).toNat (-1, 1000000)).1, T) ∧ Off S T 507 508 := by
  have b := h.pl.b
  obtain ⟨s', es, hI⟩ := lp_inv (body := fun go p0 => lb_Searches_cheapestFor_7 505 a go p0.1 p0.2.1 p0.2.2.1 p0.2.2.2) (fun i (s : Int × Int × St) => (s.1, s.2.1, i, s.2.2)) (fun s => (s.1, s.2.2))
    (fun i s => 1 ≤ i ∧ Off S s.2.2 507 508 ∧ s.1 = (itR (cpF e) 1 (i - 1).toNat (-1, 1000000)).1 ∧ ((itR (cpF e) 1 (i - 1).toNat (-1, 1000000)).1 ≠ -1 → s.2.1 = (itR (cpF e) 1 (i - 1).toNat (-1, 1000000)).2) ∧ ((itR (cpF e) 1 (i - 1).toNat (-1, 1000000)).1 = -1 → (itR (cpF e) 1 (i - 1).toNat (-1, 1000000)).2 = 1000000)) (pgs W + 1)
    (fun go i s hI hi => by
      show lb_Searches_cheapestFor_7 505 a go s.1 s.2.1 i s.2.2 = _
      have e7 : g s.2.2 5 1 = pgs W := (h.off hI.2.1 (by omega)).pl.gp
      unfold lb_Searches_cheapestFor_7
      rw [tg_505_0, e7, if_pos (by omega)])
    (fun go i s hI hi => by
      obtain ⟨i0, oS, h1, h2, h3⟩ := hI
      have hS := h.off oS (by omega)
      have e7 : g s.2.2 5 1 = pgs W := hS.pl.gp
      obtain ⟨v, T, e1, o1, ev⟩ := ev_class hS hG ha (p := i) ⟨i0, by omega⟩
      have vb := ev.bd hG
      have ve : e i = v := (he i i0 (by omega)).uni hG ev
      obtain ⟨z, hz⟩ : ∃ z, z = itR (cpF e) 1 (i - 1).toNat (-1, 1000000) := ⟨_, rfl⟩
      have es : itR (cpF e) 1 (i + 1 - 1).toNat (-1, 1000000) = cpF e i z := by
        rw [show (i + 1 - 1).toNat = (i - 1).toNat + 1 by omega, itR_snoc, ← hz, show (1 : Int) + (((i - 1).toNat : Nat) : Int) = i by omega]
      rw [← hz] at h1 h2 h3
      rw [es]
      have body : ∀ r, (r = if v = -1 then go (s.1, s.2.1, i + 1, T) else if s.1 = -1 then go (i, v, i + 1, T) else if s.2.1 ≤ v then go (s.1, s.2.1, i + 1, T) else go (i, v, i + 1, T)) → lb_Searches_cheapestFor_7 505 a go s.1 s.2.1 i s.2.2 = r := fun r hr => by
        rw [hr]
        unfold lb_Searches_cheapestFor_7
        rw [tg_505_0, e7, if_neg (by omega : ¬ pgs W < i), e1, bnO_s]
        simp only [nm_x, wr_s (z := i + 1) (by omega) (by omega)]
      by_cases c1 : v = -1
      · have ec : cpF e i z = z := by unfold cpF; rw [ve, if_pos c1]
        rw [ec]
        exact ⟨(s.1, s.2.1, T), body _ (by rw [if_pos c1]), by omega, oS.trans o1, h1, h2, h3⟩
      · by_cases c2 : s.1 = -1
        · have z2 := h3 (by omega)
          have ec : cpF e i z = (i, v) := by unfold cpF; rw [ve, if_neg c1, if_pos (by omega)]
          rw [ec]
          exact ⟨(i, v, T), body _ (by rw [if_neg c1, if_pos c2]), by omega, oS.trans o1, rfl, fun _ => rfl, fun q => by have q' : i = -1 := q; omega⟩
        · have z2 := h2 (by omega)
          by_cases c3 : s.2.1 ≤ v
          · have ec : cpF e i z = z := by unfold cpF; rw [ve, if_neg c1, if_neg (by omega)]
            rw [ec]
            exact ⟨(s.1, s.2.1, T), body _ (by rw [if_neg c1, if_neg c2, if_pos c3]), by omega, oS.trans o1, h1, h2, h3⟩
          · have ec : cpF e i z = (i, v) := by unfold cpF; rw [ve, if_neg c1, if_pos (by omega)]
            rw [ec]
            exact ⟨(i, v, T), body _ (by rw [if_neg c1, if_neg c2, if_neg c3]), by omega, oS.trans o1, rfl, fun _ => rfl, fun q => by have q' : i = -1 := q; omega⟩)
    (pgs W + 1 - 1).toNat FU 1 (-1, 0, S) ⟨Int.le_refl _, Off.refl, rfl, fun q => absurd rfl q, fun _ => rfl⟩ (by omega) rfl (FU_lt (by omega))
  refine ⟨s'.2.2, ?_, hI.2.1⟩
  have es' : lo_Searches_cheapestFor_7 505 a FU (-1, 0, 1, S) = some (s'.1, s'.2.2) := es
  unfold fn_Searches_cheapestFor
  rw [es', bnO_s, ← hI.2.2.1]
theorem cp_model {T0 : St} (hR : RM T0 T W n hs) (hG : Good W) (ha : 0 ≤ a ∧ a < nA W) {e : Int → Int} (he : ∀ p, 1 ≤ p → p ≤ pgs W → EvV W a p (e p)) : ∃ T', lo_Mo_cheapestPage_36 514 a FU (-1, 1000000, 1, T) = some ((itR (cpF e) 1 (pgs W + 1 - 1).toNat (-1, 1000000)).1, T') ∧ RM T0 T' W n hs := by
  have b := hG.1.pg
  obtain ⟨s', es, hI⟩ := lp_inv (body := fun go p0 => lb_Mo_cheapestPage_36 514 a go p0.1 p0.2.1 p0.2.2.1 p0.2.2.2) (fun i (s : (Int × Int) × St) => (s.1.1, s.1.2, i, s.2)) (fun s => (s.1.1, s.2))
    (fun i s => 1 ≤ i ∧ RM T0 s.2 W n hs ∧ s.1 = itR (cpF e) 1 (i - 1).toNat (-1, 1000000)) (pgs W + 1)
    (fun go i s hI hi => by
      show lb_Mo_cheapestPage_36 514 a go s.1.1 s.1.2 i s.2 = _
      unfold lb_Mo_cheapestPage_36
      rw [Mo_pageMany hI.2.1.2.2.1, bnO_s, if_pos (by omega)])
    (fun go i s hI hi => by
      obtain ⟨i0, r0, h1⟩ := hI
      obtain ⟨v, T, e1, r1, ev⟩ := ev_model r0 hG ha (p := i) ⟨i0, by omega⟩
      have ve : e i = v := (he i i0 (by omega)).uni hG ev
      have es : itR (cpF e) 1 (i + 1 - 1).toNat (-1, 1000000) = cpF e i s.1 := by
        rw [show (i + 1 - 1).toNat = (i - 1).toNat + 1 by omega, itR_snoc, ← h1, show (1 : Int) + (((i - 1).toNat : Nat) : Int) = i by omega]
      rw [es]
      have body : ∀ r, (r = if v = -1 then go (s.1.1, s.1.2, i + 1, T) else if v < s.1.2 then go (i, v, i + 1, T) else go (s.1.1, s.1.2, i + 1, T)) → lb_Mo_cheapestPage_36 514 a go s.1.1 s.1.2 i s.2 = r := fun r hr => by
        rw [hr]
        unfold lb_Mo_cheapestPage_36
        rw [Mo_pageMany r0.2.2.1, bnO_s, if_neg (by omega : ¬ pgs W < i), e1, bnO_s]
        simp only [nm_x, wr_s (z := i + 1) (by omega) (by omega)]
      by_cases c1 : v = -1
      · have ec : cpF e i s.1 = s.1 := by unfold cpF; rw [ve, if_pos c1]
        rw [ec]
        exact ⟨(s.1, T), body _ (by rw [if_pos c1]), by omega, r1, rfl⟩
      · by_cases c3 : v < s.1.2
        · have ec : cpF e i s.1 = (i, v) := by unfold cpF; rw [ve, if_neg c1, if_pos c3]
          rw [ec]
          exact ⟨((i, v), T), body _ (by rw [if_neg c1, if_pos c3]), by omega, r1, rfl⟩
        · have ec : cpF e i s.1 = s.1 := by unfold cpF; rw [ve, if_neg c1, if_neg c3]
          rw [ec]
          exact ⟨(s.1, T), body _ (by rw [if_neg c1, if_neg c3]), by omega, r1, rfl⟩)
    (pgs W + 1 - 1).toNat FU 1 ((-1, 1000000), T) ⟨Int.le_refl _, hR, rfl⟩ (by omega) rfl (FU_lt (by omega))
  refine ⟨s'.2, ?_, hI.2.1⟩
  have es' : lo_Mo_cheapestPage_36 514 a FU (-1, 1000000, 1, T) = some (s'.1.1, s'.2) := es
  rw [es', ← hI.2.2]
theorem cp_bd {e : Int → Int} {N : Nat} (hN : N ≤ 64) : -1 ≤ (itR (cpF e) 1 N (-1, 1000000)).1 ∧ (itR (cpF e) 1 N (-1, 1000000)).1 ≤ 64 := by
  have q := itR_inv (f := cpF e) (n := N) (i := 1) (s := (-1, 1000000)) (I := fun _ s => -1 ≤ s.1 ∧ s.1 ≤ 64) (fun j s j1 j2 h => by
    show -1 ≤ (cpF e j s).1 ∧ (cpF e j s).1 ≤ 64
    unfold cpF
    split
    · exact h
    · split
      · show -1 ≤ j ∧ j ≤ 64; omega
      · exact h) ⟨Int.le_refl _, by decide⟩
  exact q
theorem ok_cheapestPage (hI : Inv S) {a : Int} (hi_a : inR a) : ∃ e S1 r S2, fn_Law_cheapestPage 0 a 524 S = some (e, S1) ∧ fn_Mo_cheapestPage 514 a S1 = some (r, S2) ∧ Fin S2 e r := by
  obtain ⟨W, n, hs, hG, hH, hP⟩ := hI
  have h := hP.1.1
  have b := hG.1.pg
  by_cases c : 0 ≤ a ∧ a < nA W
  · have ex : ∀ p : Int, ∃ v : Int, 1 ≤ p → p ≤ pgs W → EvV W a p v := fun p => by
      by_cases d : 1 ≤ p ∧ p ≤ pgs W
      · obtain ⟨v, _, _, _, ev⟩ := ev_class h hG c d
        exact ⟨v, fun _ _ => ev⟩
      · exact ⟨0, fun h1 h2 => absurd ⟨h1, h2⟩ d⟩
    obtain ⟨e, he⟩ := Classical.axiomOfChoice ex
    obtain ⟨T, e1, o1⟩ := cp_class h hG c he
    have vb := cp_bd (e := e) (N := (pgs W + 1 - 1).toNat) (by omega)
    have cr : CR S T W n hs := ⟨o1.oc (by omega), h.off o1 (by omega), hP.2.1.1.off o1 (by omega)⟩
    obtain ⟨v, hv⟩ : ∃ v, v = (itR (cpF e) 1 (pgs W + 1 - 1).toNat (-1, 1000000)).1 := ⟨_, rfl⟩
    rw [← hv] at vb e1
    have m0 := rm_out (r := v) hP cr
    have hM1 : MV (u (ul T 524 0 v) 514 4 0) W := m0.1.thr
    obtain ⟨T', e2, r2⟩ := cp_model (RM.begin m0.1 m0.2) hG c he
    rw [← hv] at e2
    refine ⟨0, ul T 524 0 v, v, T', ?_, ?_, fin2 hP hG hH cr ⟨by omega, by omega⟩ r2⟩
    · unfold fn_Law_cheapestPage fn_FP_cheapestPage
      rw [F_needAd h, if_pos c, bnO_s, if_pos rfl, tg_0_2, e1]; rfl
    · unfold fn_Mo_cheapestPage
      rw [nm_x, Mo_isAd hM1, bnO_s, if_pos (decide_eq_true c), Mo_thr0, bnO_s, if_neg Bool.false_ne_true, e2, bnO_s]
  · refine ⟨1, S, 0, u (u S 514 4 0) 514 4 1, ?_, ?_, fin1 hG hH hP (.inl rfl)⟩
    · unfold fn_Law_cheapestPage fn_FP_cheapestPage
      rw [F_needAd h, if_neg c]; rfl
    · have hM1 : MV (u S 514 4 0) W := hP.1.2.thr
      unfold fn_Mo_cheapestPage
      rw [nm_x, Mo_isAd hM1, bnO_s, if_neg (by rw [decide_eq_true_eq]; exact c), Mo_thr1, bnO_s, if_pos rfl]
end Evict5
