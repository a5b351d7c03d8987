/-! THE LAW'S REASONS -/
section Reas
variable {S : St} {L L' : List PC} {P : PA} {W : Vw}
theorem lf_a0 (hV : Val W) {a p : Int} (ha : 0 ≤ a ∧ a < nA W) (hp : 1 ≤ p) : lf (up W 6 a.toNat 0) p = lefO W p a (-1) := by
  have hV' : Val (up W 6 a.toNat 0) := Val_up hV ha.1 (.inr (.inr (.inr (.inl ⟨rfl, Int.le_refl _, by have := hV.pg; omega⟩))))
  have e1 := rawR_but hV' (p := p) (a := a) (b := -1) (by rw [nA_up (by decide)]; exact ha)
  rw [rawR_setA ha.1, at_upe ha.1 ha.1, if_pos rfl, if_neg (by omega), Int.add_zero] at e1
  unfold lf lefO
  rw [stOn_up (by decide) (by decide) (by decide), room_raw hV', room_raw hV, e1]
theorem l_reason (h : HP L P W) (hV : Val W) {a p : Int} (ha : 0 ≤ a ∧ a < nA W) {x : Nat} (hxa : (xA P)[a.toNat]? = some x) (hp : inR p) : gn_LP_reason (pT P) x p S L = some ((reas W a p, (S, L)), 0, 0) := by
  have b := hV.z
  have hx0 := h.1.2.2.1 _ _ hxa
  obtain ⟨k, f0, f1, f2, f3, f4, f5, f6⟩ := ad_f hV ha hx0
  have va := hV.2.1 a ha.1 ha.2
  unfold gn_LP_reason reas isP
  by_cases c0 : p < 1
  · rw [if_pos c0, decide_eq_false (by omega), if_neg Bool.false_ne_true]
  · rw [if_neg c0, if_pos h.k, l_pages h hV, bnO_s]
    by_cases c1 : p ≤ pgs W
    · rw [if_pos c1, decide_eq_true ⟨by omega, c1⟩, if_pos rfl, f5, bnO_s]
      obtain ⟨L4, e4, w4, e7⟩ := pf_back (f := 5) (v := V (at_ W 6 a)) (w := V 0) hx0 rfl
      have h4 : HP L4 P (up W 6 a.toNat 0) := h.updA (f := 5) (Nat.le_of_ble_eq_true rfl) hxa w4
      have hV4 : Val (up W 6 a.toNat 0) := Val_up hV ha.1 (.inr (.inr (.inr (.inl ⟨rfl, Int.le_refl _, by omega⟩))))
      rw [e4, bnO_s, if_pos h4.k, l_left h4 hV4, bnO_s, e7, bnO_s, if_pos h.k, l_isShut h hV (by omega) c1, bnO_s, lf_a0 hV ha (by omega)]
      by_cases c2 : prP W p = true
      · rw [if_pos c2, if_pos c2]
      · rw [if_neg c2, if_neg c2, f0, bnO_s]
        have hfb := l_fb hV (p := p) (by omega) c1
        have vf := hV.2.2.2.2 _ hfb.1 hfb.2
        by_cases c3 : at_ W 0 a ≤ lefO W p a (-1)
        · rw [if_pos c3, if_neg (c := lefO W p a (-1) < at_ W 0 a) (by omega), f6, bnO_s, if_pos h.k, l_sided f2 (by omega) (by omega), bnO_s, if_pos h.k, l_rival h hV ha (by omega) hxa, bnO_s]
          rw [h.fC, bnO_s, if_pos h.k, l_form h hV (by omega) (by omega), bnO_s]
          show (if at_ W 2 a = 0 then _ else (bnO (ald L 2 (pC P) (fOf W p)) _)) = _
          rw [h.co hV hfb, bnO_s]
          by_cases c4 : at_ W 2 a = 0
          · rw [if_pos c4, if_neg (c := at_ W 2 a = 1 ∧ coP W p = false) (by omega)]
            cases onSd p (at_ W 3 a) <;> cases rivl W a (p / 2) <;> rfl
          · have c5 : at_ W 2 a = 1 := by omega
            rw [if_neg c4]
            unfold coP
            rcases vf.1 with e | e
            · rw [if_pos e, if_pos (c := at_ W 2 a = 1 ∧ decide (at_ W 14 (fOf W p) = 1) = false) ⟨c5, by rw [e]; rfl⟩]
            · rw [if_neg (by omega), if_neg (c := at_ W 2 a = 1 ∧ decide (at_ W 14 (fOf W p) = 1) = false) (fun q => by rw [e] at q; exact absurd q.2 (by decide))]
              cases onSd p (at_ W 3 a) <;> cases rivl W a (p / 2) <;> rfl
        · rw [if_neg c3, if_pos (c := lefO W p a (-1) < at_ W 0 a) (by omega)]
    · rw [if_neg c1, decide_eq_false (by omega), if_neg Bool.false_ne_true]
/-! stories -/
theorem stOn_0 {s q : Int} (hs : 0 ≤ s) : stOn (up W 11 s.toNat 0) q (-1) = stOn W q s := by
  unfold stOn
  rw [nS_up (by decide)]
  refine fstR_congr (fun x h1 h2 => ?_)
  rw [decide_eq_true (show x ≠ -1 by omega), Bool.true_and]
  unfold cov
  rw [at_upe (by omega) hs, at_upn (by decide)]
  by_cases c : x = s
  · rw [if_pos c, decide_eq_false (by omega), decide_eq_false (fun q => q c), Bool.false_and]
  · rw [if_neg c, decide_eq_true c, Bool.true_and]
theorem room_11 {i : Nat} {z q a b : Int} : room (up W 11 i z) q a b = room W q a b := by
  unfold room sumA sumB szA szB
  rw [nA_up (by decide), nB_up (by decide)]
  simp only [at_upn (W := W) (k := 11) (i := i) (z := z) (k' := 6) (by decide), at_upn (W := W) (k := 11) (i := i) (z := z) (k' := 0) (by decide), at_upn (W := W) (k := 11) (i := i) (z := z) (k' := 13) (by decide), at_upn (W := W) (k := 11) (i := i) (z := z) (k' := 12) (by decide)]
def pv9 (W : Vw) (s x : Int) : Int := if pgR W s x = 0 then 9 else pgR W s x
def cv9 (m : Int) : Int := if m = 1000000 then 9 else m
theorem cv_it {s q : Int} : ∀ {n : Nat} {i m : Int}, (m = 1000000 ∨ (2 ≤ m ∧ m ≤ 4)) → itR (fun x b => i_min b (pv9 W s x)) (q + i) n (cv9 m) = cv9 (itR (mnS W s q) i n m)
  | 0, _, _, _ => rfl
  | n + 1, i, m, hm => by
    show itR _ (q + i + 1) n (i_min (cv9 m) (pv9 W s (q + i))) = cv9 (itR (mnS W s q) (i + 1) n (mnS W s q i m))
    have v := pgR_v (W := W) (s := s) (q := q + i)
    have e : i_min (cv9 m) (pv9 W s (q + i)) = cv9 (mnS W s q i m) := by
      unfold i_min cv9 pv9 mnS
      rcases v with v | v
      · rw [if_pos v, if_pos v]
        rcases hm with rfl | hm
        · rw [if_pos rfl, if_neg (by decide)]
        · rw [if_neg (by omega), if_neg (by omega)]
      · rw [if_neg (c := pgR W s (q + i) = 0) (by omega), if_neg (c := pgR W s (q + i) = 0) (by omega)]
        rcases hm with rfl | hm
        · rw [if_pos rfl, if_pos (c := pgR W s (q + i) < 9) (by omega), if_pos (c := pgR W s (q + i) < 1000000) (by omega), if_neg (by omega)]
        · rw [if_neg (c := m = 1000000) (by omega)]
          by_cases c : pgR W s (q + i) < m
          · rw [if_pos c, if_neg (by omega)]
          · rw [if_neg c, if_neg (by omega)]
    have hm' : mnS W s q i m = 1000000 ∨ (2 ≤ mnS W s q i m ∧ mnS W s q i m ≤ 4) := by
      unfold mnS
      split
      · exact hm
      · split
        · exact .inr (by omega)
        · exact hm
    rw [e, show q + i + 1 = q + (i + 1) by omega]
    exact cv_it hm'
theorem l_sLoop {s : Int} (h : HP L P (up W 11 s.toNat 0)) (hV : Val W) {p : Int} (hs : 0 ≤ s ∧ s < nS W) {x : Nat} (hxs : (xS P)[s.toNat]? = some x) (hp : 1 ≤ p) (hp2 : p + at_ W 7 s - 1 ≤ pgs W) {z : Int} : lo2_LP_storyReason_47 (pT P) x p z S L FU (9, p) = some (cv9 (mnR W s p (at_ W 7 s).toNat)) := by
  have b := hV.z
  have v := hV.2.2.1 s hs.1 hs.2
  have hV' : Val (up W 11 s.toNat 0) := Val_up hV hs.1 (.inr (.inr (.inr (.inr (.inl ⟨rfl, .inl rfl⟩)))))
  have hx0 := h.1.2.2.2.1 _ _ hxs
  obtain ⟨-, f0, -, -, -, -, -, f6⟩ := st_f hV' (by rw [nS_up (by decide)]; exact hs) hx0
  rw [at_upn (by decide)] at f0 f6
  have q := lp_it (body := fun go w => lb2_LP_storyReason_47 (pT P) x p z S L go w.1 w.2) (fun i b => (b, i)) (fun y b => i_min b (pv9 W s y)) id (fun i _ => p ≤ i) (p + at_ W 7 s)
    (fun go i b h0 h1 => by
      show lb2_LP_storyReason_47 (pT P) x p z S L go b i = some b
      unfold lb2_LP_storyReason_47
      simp only [f0, bnO_s, nm_x, wr_s (z := p + at_ W 7 s) (by omega) (by omega)]
      rw [if_pos h1])
    (fun go i b h0 h1 => by
      refine ⟨?_, by omega⟩
      show lb2_LP_storyReason_47 (pT P) x p z S L go b i = go (i_min b (pv9 W s i), i + 1)
      have hpg : i ≤ pgs W := by omega
      have hfb := l_fb hV (p := i) (by omega) hpg
      have vf := hV.2.2.2.2 _ hfb.1 hfb.2
      have hfb' : 0 ≤ fOf W i ∧ fOf W i < 2 * sg (up W 11 s.toNat 0) := by rw [sg_up (by decide)]; exact hfb
      have e1 := l_isShut (S := S) h hV' (p := i) (by omega) (by rw [pgs_up (by decide)]; exact hpg)
      have e2 := l_left (S := S) h hV' (p := i)
      have e3 := l_form (S := S) h hV' (p := i) (by omega) (by omega)
      have e4 := h.co hV' hfb'
      rw [prP_up (by decide) (by decide)] at e1
      rw [fOf_up (by decide)] at e3
      rw [at_upn (by decide)] at e4
      unfold lb2_LP_storyReason_47
      simp only [f0, bnO_s, nm_x, wr_s (z := p + at_ W 7 s) (by omega) (by omega), h.k, eq_self, if_true, e1, e2, f6, h.fC, e3, rfB_r, e4, wr_s (z := i + 1) (by omega) (by omega)]
      rw [if_neg (by omega)]
      unfold lf lefO
      rw [stOn_0 hs.1, room_11]
      unfold pv9 pgR coP
      by_cases c1 : prP W i = true
      · rw [if_pos c1, if_pos c1, if_neg (by decide)]
      · simp only [if_neg c1]
        by_cases c2 : stOn W i s ≠ -1 ∨ room W i (-1) (-1) < 4
        · simp only [if_pos c2]
          have c3 : ¬ (4 ≤ if stOn W i s = -1 then room W i (-1) (-1) else 0) := by
            by_cases c4 : stOn W i s = -1
            · rw [if_pos c4]; rcases c2 with c2 | c2
              · exact absurd c4 c2
              · omega
            · rw [if_neg c4]; decide
          rw [if_neg c3, if_neg (by decide)]
        · simp only [if_neg c2]
          have c4 : stOn W i s = -1 := by
            rcases Int.decEq (stOn W i s) (-1) with q | q
            · exact absurd (.inl q) c2
            · exact q
          rw [if_pos c4, if_pos (c := 4 ≤ room W i (-1) (-1)) (by
            rcases Int.lt_or_le (room W i (-1) (-1)) 4 with q | q
            · exact absurd (.inr q) c2
            · exact q)]
          by_cases c5 : at_ W 8 s = 0
          · rw [if_pos c5, if_neg (c := at_ W 8 s = 1 ∧ decide (at_ W 14 (fOf W i) = 1) = false) (by omega), if_pos rfl]
          · rw [if_neg c5]
            rcases vf.1 with e | e
            · rw [if_pos e, if_pos (c := at_ W 8 s = 1 ∧ decide (at_ W 14 (fOf W i) = 1) = false) ⟨by omega, by rw [e]; rfl⟩, if_neg (by decide)]
            · rw [if_neg (by omega), if_neg (c := at_ W 8 s = 1 ∧ decide (at_ W 14 (fOf W i) = 1) = false) (fun q => by rw [e] at q; exact absurd q.2 (by decide)), if_pos rfl]) (at_ W 7 s).toNat FU p 9 (Int.le_refl _) (by omega) (FU_big (by omega))
  have e9 := cv_it (W := W) (s := s) (q := p) (n := (at_ W 7 s).toNat) (i := 0) (m := 1000000) (.inl rfl)
  rw [Int.add_zero] at e9
  rw [show lo2_LP_storyReason_47 (pT P) x p z S L FU (9, p) = _ from q]
  exact congrArg some e9
theorem l_storyReason (h : HP L P W) (hV : Val W) {s p : Int} (hs : 0 ≤ s ∧ s < nS W) {x : Nat} (hxs : (xS P)[s.toNat]? = some x) (hp : inR p) : gn_LP_storyReason (pT P) x p S L = some ((layR W s p, (S, L)), 0, 0) := by
  have b := hV.z
  have hx0 := h.1.2.2.2.1 _ _ hxs
  obtain ⟨k, f0, f1, f2, f3, f4, f5, f6⟩ := st_f hV hs hx0
  have v := hV.2.2.1 s hs.1 hs.2
  unfold gn_LP_storyReason layR isP
  by_cases c0 : p < 1
  · rw [if_pos c0, if_neg (by rw [decide_eq_true_eq]; omega)]
  · rw [if_neg c0, if_pos h.k, l_pages h hV, bnO_s]
    by_cases c1 : p ≤ pgs W
    · rw [if_neg (by omega), f0, bnO_s, if_pos h.k, bnO_s, nm_x, wr_s (by omega) (by omega)]
      by_cases c2 : p + at_ W 7 s - 1 ≤ pgs W
      · rw [if_pos c2, if_pos (by rw [decide_eq_true_eq]; omega), f5, bnO_s]
        obtain ⟨L4, e4, w4, e7⟩ := pf_back (f := 5) (v := V (at_ W 11 s)) (w := V 0) hx0 rfl
        have h4 : HP L4 P (up W 11 s.toNat 0) := h.updS hxs w4
        rw [e4, bnO_s, l_sLoop h4 hV hs hxs (by omega) c2, bnO_s, e7, bnO_s]
        have mv := mnR_v (W := W) (s := s) (q := p) (n := (at_ W 7 s).toNat)
        unfold cv9
        rcases mv with mv | mv
        · rw [if_pos mv, if_pos (by decide), if_neg (c := mnR W s p (at_ W 7 s).toNat < 1000000) (by omega), if_pos h.k, l_sided f2 (by omega) (by omega), bnO_s]
          cases onSd p (at_ W 9 s) <;> rfl
        · rw [if_neg (c := mnR W s p (at_ W 7 s).toNat = 1000000) (by omega), if_neg (by omega), if_pos (by omega)]
      · rw [if_neg c2, if_neg (by rw [decide_eq_true_eq]; omega)]
    · rw [if_pos (by omega), if_neg (by rw [decide_eq_true_eq]; omega)]
end Reas
