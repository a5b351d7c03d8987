/-! placeAds: the order of the ads -/
section PlaceAds
variable {W V : Vw} {S S' T0 T : St} {a b i j k n : Int} {hs : Int → Vw} {w : Int → Int} {P : Int → Bool}
def cbP (W : Vw) (a b : Int) : Prop := at_ W 4 b < at_ W 4 a ∨ (at_ W 4 a = at_ W 4 b ∧ at_ W 0 b < at_ W 0 a)
def ahP (W : Vw) (a b : Int) : Prop := at_ W 4 b < at_ W 4 a ∨ (at_ W 4 a = at_ W 4 b ∧ (at_ W 0 b < at_ W 0 a ∨ (at_ W 0 a = at_ W 0 b ∧ a < b)))
theorem ahP_tr {x y z : Int} (h : ahP W x y) (h' : ahP W y z) : ahP W x z := by unfold ahP at *; omega
theorem ahP_ne (h : ahP W a b) : a ≠ b := by unfold ahP at h; intro e; rw [e] at h; omega
theorem ahP_tot (h : ¬ ahP W a b) (hn : a ≠ b) : ahP W b a := by unfold ahP at *; omega
theorem cb_dec (W : Vw) (a b : Int) : cbP W a b ∨ ¬ cbP W a b := by unfold cbP; omega
theorem ah_dec (W : Vw) (a b : Int) : ahP W a b ∨ ¬ ahP W a b := by unfold ahP; omega
theorem cb_ah (h : cbP W a b) : ahP W a b := by unfold cbP at h; unfold ahP; omega
theorem nc_ah (h : ¬ cbP W a b) (hl : b < a) : ahP W b a := by unfold cbP at h; unfold ahP; omega
def LstP (W : Vw) (w : Int → Int) (k : Int) (P : Int → Bool) : Prop := (∀ i, 0 ≤ i → i < k → (0 ≤ w i ∧ w i < nA W) ∧ P (w i) = true) ∧ (∀ i j, 0 ≤ i → i < j → j < k → ahP W (w i) (w j)) ∧ ∀ x, 0 ≤ x → x < nA W → P x = true → ∃ i, (0 ≤ i ∧ i < k) ∧ w i = x
theorem S_before (h : PL S 5 W) (ha : 0 ≤ a ∧ a < nA W) (hb : 0 ≤ b ∧ b < nA W) : (cbP W a b ∧ fn_Searches_comesBefore 505 a b S = some true) ∨ (¬ cbP W a b ∧ fn_Searches_comesBefore 505 a b S = some false) := by
  have bb := h.b
  have a4 : g S 12 a.toNat = at_ W 4 a := h.a4 ha
  have b4 : g S 12 b.toNat = at_ W 4 b := h.a4 hb
  have a0 : g S 8 a.toNat = at_ W 0 a := h.a0 ha
  have b0 : g S 8 b.toNat = at_ W 0 b := h.a0 hb
  unfold fn_Searches_comesBefore cbP
  rw [if_pos (by omega : 0 ≤ a ∧ a < 40), if_pos (by omega : 0 ≤ b ∧ b < 40), tg_505_1, tg_6_0, tg_7_4, tg_7_0, a4, b4, a0, b0]
  by_cases c1 : at_ W 4 a = at_ W 4 b
  · rw [if_pos c1]
    by_cases c2 : at_ W 0 a ≤ at_ W 0 b
    · rw [if_pos c2]; exact .inr ⟨by omega, rfl⟩
    · rw [if_neg c2]; exact .inl ⟨by omega, rfl⟩
  · rw [if_neg c1]
    by_cases c2 : at_ W 4 a ≤ at_ W 4 b
    · rw [if_pos c2]; exact .inr ⟨by omega, rfl⟩
    · rw [if_neg c2]; exact .inl ⟨by omega, rfl⟩
def InsQ (W : Vw) (S : St) (w : Int → Int) (a k j : Int) : Prop := (∀ l, 0 ≤ l → l < j → g S 506 l.toNat = w l) ∧ (∀ l, j < l → l ≤ k → g S 506 l.toNat = w (l - 1)) ∧ ∀ l, j ≤ l → l < k → cbP W a (w l)
theorem ins_loop (ha : 0 ≤ a ∧ a < nA W) (hk : k ≤ 39) (hw : ∀ i, 0 ≤ i → i < k → 0 ≤ w i ∧ w i < nA W) : ∀ (m : Nat) (j : Int) (S : St) (n : Nat), j ≤ m → 0 ≤ j → j ≤ k → m < n → PL S 5 W → InsQ W S w a k j → ∃ j' S', lp (fun go p0 => lb_Searches_insertAd_2 505 a go p0.1 p0.2) n (j, S) = some (j', S') ∧ (0 ≤ j' ∧ j' ≤ k) ∧ Off S S' 506 507 ∧ InsQ W S' w a k j' ∧ (j' = 0 ∨ ¬ cbP W a (w (j' - 1)))
  | m, j, S, n + 1, h1, h2, h3, h4, hL, hQ => by
    have b := hL.b
    rw [lp_succ]
    show ∃ j' S', lb_Searches_insertAd_2 505 a (lp (fun go p0 => lb_Searches_insertAd_2 505 a go p0.1 p0.2) n) j S = some (j', S') ∧ _
    by_cases c : j = 0
    · refine ⟨j, S, ?_, ⟨h2, h3⟩, Off.refl, hQ, .inl c⟩
      unfold lb_Searches_insertAd_2
      rw [if_pos (by omega)]
    · have e1 : g S 506 (j - 1).toNat = w (j - 1) := hQ.1 (j - 1) (by omega) (by omega)
      have wb := hw (j - 1) (by omega) (by omega)
      rcases S_before hL ha wb with ⟨d, e⟩ | ⟨d, e⟩
      · obtain ⟨S1, hS1⟩ : ∃ S1, S1 = u S 506 j.toNat (w (j - 1)) := ⟨_, rfl⟩
        have o1 : Off S S1 506 507 := by rw [hS1]; exact Off.wt (by omega) (by omega)
        obtain ⟨m', rfl⟩ : ∃ m', m = m' + 1 := ⟨m - 1, by omega⟩
        obtain ⟨j', S', r1, r2, r3, r4, r5⟩ := ins_loop ha hk hw m' (j - 1) S1 n (by omega) (by omega) (by omega) (by omega) (hL.off o1 (by omega)) ⟨fun l l0 l1 => by
            rw [hS1, g_ne (by omega)]; exact hQ.1 l l0 (by omega), fun l l0 l1 => by
            rw [hS1]
            by_cases z : l = j
            · rw [z, g_eq, wr_s (by omega) (by omega)]
            · rw [g_ne (by omega)]; exact hQ.2.1 l (by omega) l1, fun l l0 l1 => by
            by_cases z : l = j - 1
            · rw [z]; exact d
            · exact hQ.2.2 l (by omega) l1⟩
        refine ⟨j', S', ?_, r2, o1.trans r3, r4, r5⟩
        unfold lb_Searches_insertAd_2
        rw [if_neg (by omega), if_pos (by omega : 0 ≤ j - 1 ∧ j - 1 < 40), tg_505_2, e1, e, bnO_s, if_pos rfl, if_pos (by omega : 0 ≤ j ∧ j < 40), nm_x, nm_x, show j + -1 = j - 1 by omega, wr_s (z := j - 1) (by omega) (by omega), ← hS1]
        exact r1
      · refine ⟨j, S, ?_, ⟨h2, h3⟩, Off.refl, hQ, .inr d⟩
        unfold lb_Searches_insertAd_2
        rw [if_neg (by omega), if_pos (by omega : 0 ≤ j - 1 ∧ j - 1 < 40), tg_505_2, e1, e, bnO_s, if_neg Bool.false_ne_true]
theorem S_insert (h : PL S 5 W) (ha : 0 ≤ a ∧ a < nA W) (hk : 0 ≤ k ∧ k ≤ a) (hP : ∀ x, P x = true → x < a) (hl : LstP W (fun i => g S 506 i.toNat) k P) : ∃ S', fn_Searches_insertAd 505 a k S = some S' ∧ Off S S' 506 507 ∧ LstP W (fun i => g S' 506 i.toNat) (k + 1) (fun x => P x || decide (x = a)) := by
  have b := h.b
  obtain ⟨w, hw⟩ : ∃ w : Int → Int, w = fun i => g S 506 i.toNat := ⟨_, rfl⟩
  rw [← hw] at hl
  obtain ⟨j, S1, r1, r2, r3, r4, r5⟩ := ins_loop (w := w) (k := k) ha (by omega) (fun i i0 i1 => (hl.1 i i0 i1).1) 100 k S FU (by omega) hk.1 (Int.le_refl _) (FU_lt (by omega)) h ⟨fun l l0 l1 => by rw [hw], fun l l0 l1 => by omega, fun l l0 l1 => by omega⟩
  have r1' : lo_Searches_insertAd_2 505 a FU (k, S) = some (j, S1) := r1
  have v : ∀ l : Int, 0 ≤ l → l ≤ k → g (u S1 506 j.toNat a) 506 l.toNat = if l = j then a else if l < j then w l else w (l - 1) := fun l l0 l1 => by
    by_cases z : l = j
    · rw [z, g_eq, if_pos rfl, wr_s (by omega) (by omega)]
    · rw [g_ne (by omega), if_neg z]
      by_cases y : l < j
      · rw [if_pos y]; exact r4.1 l l0 y
      · rw [if_neg y]; exact r4.2.1 l (by omega) l1
  have bef : ∀ l, 0 ≤ l → l < j → ahP W (w l) a := fun l l0 l1 => by
    have d := r5.resolve_left (by omega)
    have m := hl.1 (j - 1) (by omega) (by omega)
    have q := nc_ah d (hP _ m.2)
    by_cases z : l = j - 1
    · rw [z]; exact q
    · exact ahP_tr (hl.2.1 l (j - 1) l0 (by omega) (by omega)) q
  have aft : ∀ l, j ≤ l → l < k → ahP W a (w l) := fun l l0 l1 => cb_ah (r4.2.2 l l0 l1)
  refine ⟨u S1 506 j.toNat a, ?_, r3.tu (by omega) (by omega), fun i i0 i1 => ?_, fun i l i0 i1 i2 => ?_, fun x x0 x1 hx => ?_⟩
  · unfold fn_Searches_insertAd
    rw [r1', bnO_s]
    show (if 0 ≤ j ∧ j < 40 then _ else _) = _
    rw [if_pos (by omega : 0 ≤ j ∧ j < 40), nm_x, tg_505_2]
  · show (0 ≤ g (u S1 506 j.toNat a) 506 i.toNat ∧ g (u S1 506 j.toNat a) 506 i.toNat < nA W) ∧ (P (g (u S1 506 j.toNat a) 506 i.toNat) || decide (g (u S1 506 j.toNat a) 506 i.toNat = a)) = true
    rw [v i i0 (by omega)]
    by_cases z : i = j
    · rw [if_pos z, decide_eq_true rfl, Bool.or_true]; exact ⟨ha, rfl⟩
    · rw [if_neg z]
      by_cases y : i < j
      · rw [if_pos y]
        have m := hl.1 i i0 (by omega)
        rw [m.2]; exact ⟨m.1, rfl⟩
      · rw [if_neg y]
        have m := hl.1 (i - 1) (by omega) (by omega)
        rw [m.2]; exact ⟨m.1, rfl⟩
  · show ahP W (g (u S1 506 j.toNat a) 506 i.toNat) (g (u S1 506 j.toNat a) 506 l.toNat)
    rw [v i i0 (by omega), v l (by omega) (by omega)]
    by_cases z : i = j
    · rw [if_pos z, if_neg (by omega), if_neg (by omega)]
      exact aft (l - 1) (by omega) (by omega)
    · rw [if_neg z]
      by_cases y : i < j
      · rw [if_pos y]
        by_cases z2 : l = j
        · rw [if_pos z2]; exact bef i i0 y
        · rw [if_neg z2]
          by_cases y2 : l < j
          · rw [if_pos y2]; exact hl.2.1 i l i0 i1 (by omega)
          · rw [if_neg y2]
            by_cases q : i = l - 1
            · exact absurd q (by omega)
            · exact hl.2.1 i (l - 1) i0 (by omega) (by omega)
      · rw [if_neg y, if_neg (by omega), if_neg (by omega)]
        exact hl.2.1 (i - 1) (l - 1) (by omega) (by omega) (by omega)
  · have hx' : (P x || decide (x = a)) = true := hx
    by_cases z : x = a
    · refine ⟨j, by omega, ?_⟩
      show g (u S1 506 j.toNat a) 506 j.toNat = x
      rw [v j r2.1 r2.2, if_pos rfl, z]
    · rw [decide_eq_false z, Bool.or_false] at hx'
      obtain ⟨i, ib, iw⟩ := hl.2.2 x x0 x1 hx'
      by_cases y : i < j
      · refine ⟨i, by omega, ?_⟩
        show g (u S1 506 j.toNat a) 506 i.toNat = x
        rw [v i ib.1 (by omega), if_neg (by omega), if_pos y, iw]
      · refine ⟨i + 1, by omega, ?_⟩
        show g (u S1 506 j.toNat a) 506 (i + 1).toNat = x
        rw [v (i + 1) (by omega) (by omega), if_neg (by omega), if_neg (by omega), show i + 1 - 1 = i by omega, iw]
def frA (W : Vw) (i x : Int) : Bool := decide (0 ≤ x ∧ x < i ∧ at_ W 6 x = 0)
theorem S_order (h : PT S 5 W) : ∃ k S', lo_Searches_placeFreeAds_4 505 FU (0, 0, S) = some (k, S') ∧ (0 ≤ k ∧ k ≤ nA W) ∧ Off S S' 506 507 ∧ LstP W (fun i => g S' 506 i.toNat) k (frA W (nA W)) := by
  have b := h.pl.b
  obtain ⟨⟨k, S'⟩, e, hI⟩ := lp_inv (body := fun go p0 => lb_Searches_placeFreeAds_4 505 go p0.1 p0.2.1 p0.2.2) (fun i (s : Int × St) => (s.1, i, s.2)) (fun s => s)
    (fun i s => 0 ≤ i ∧ (0 ≤ s.1 ∧ s.1 ≤ i) ∧ Off S s.2 506 507 ∧ LstP W (fun j => g s.2 506 j.toNat) s.1 (frA W i)) (nA W)
    (fun go i s hI hi => by
      have e7 : g s.2 7 7 = nA W := by rw [hI.2.2.1.rd (by omega)]; exact h.pl.mA
      show lb_Searches_placeFreeAds_4 505 go s.1 i s.2 = _
      unfold lb_Searches_placeFreeAds_4
      rw [tg_505_1, tg_6_0, e7, if_pos hi])
    (fun go i s hI hi => by
      obtain ⟨h0, h1, h2, h3⟩ := hI
      have hL := h.pl.off h2 (by omega)
      have e7 : g s.2 7 7 = nA W := hL.mA
      have e6 : g s.2 14 i.toNat = at_ W 6 i := hL.a6 ⟨h0, hi⟩
      by_cases c : at_ W 6 i = 0
      · obtain ⟨S1, t1, t2, t3⟩ := S_insert (a := i) hL ⟨h0, hi⟩ h1 (fun x hx => by
          have := of_decide_eq_true hx
          omega) h3
        have ef : (fun x => frA W i x || decide (x = i)) = frA W (i + 1) := by
          funext x
          unfold frA
          by_cases z : x = i
          · rw [decide_eq_true z, Bool.or_true, decide_eq_true (by rw [z]; exact ⟨h0, by omega, c⟩)]
          · rw [decide_eq_false z, Bool.or_false]
            by_cases y : 0 ≤ x ∧ x < i ∧ at_ W 6 x = 0
            · rw [decide_eq_true y, decide_eq_true ⟨y.1, by omega, y.2.2⟩]
            · rw [decide_eq_false y, decide_eq_false (fun q => y ⟨q.1, by omega, q.2.2⟩)]
        rw [ef] at t3
        refine ⟨(s.1 + 1, S1), ?_, by omega, ⟨by show 0 ≤ s.1 + 1; omega, by show s.1 + 1 ≤ i + 1; omega⟩, h2.trans t2, t3⟩
        show lb_Searches_placeFreeAds_4 505 go s.1 i s.2 = go (s.1 + 1, i + 1, S1)
        unfold lb_Searches_placeFreeAds_4
        rw [tg_505_1, tg_6_0, e7, if_neg (by omega), if_pos (by omega : 0 ≤ i ∧ i < 40), tg_7_6, e6, if_pos c, t1, bnO_s, nm_x, nm_x, wr_s (z := s.1 + 1) (by omega) (by omega), wr_s (z := i + 1) (by omega) (by omega)]
      · have ef : frA W i = frA W (i + 1) := by
          funext x
          unfold frA
          by_cases y : 0 ≤ x ∧ x < i ∧ at_ W 6 x = 0
          · rw [decide_eq_true y, decide_eq_true ⟨y.1, by omega, y.2.2⟩]
          · rw [decide_eq_false y, decide_eq_false (fun q => y ⟨q.1, by
              by_cases z : x = i
              · rw [z] at q; exact absurd q.2.2 c
              · omega, q.2.2⟩)]
        rw [ef] at h3
        refine ⟨s, ?_, by omega, ⟨h1.1, by omega⟩, h2, h3⟩
        show lb_Searches_placeFreeAds_4 505 go s.1 i s.2 = go (s.1, i + 1, s.2)
        unfold lb_Searches_placeFreeAds_4
        rw [tg_505_1, tg_6_0, e7, if_neg (by omega), if_pos (by omega : 0 ≤ i ∧ i < 40), tg_7_6, e6, if_neg c, nm_x, wr_s (z := i + 1) (by omega) (by omega)])
    (nA W - 0).toNat FU 0 (0, S) ⟨Int.le_refl _, ⟨Int.le_refl _, Int.le_refl _⟩, Off.refl, ⟨fun i i0 i1 => by
      have i1' : i < 0 := i1
      omega, fun i j i0 i1 i2 => by
      have i2' : j < 0 := i2
      omega, fun x x0 x1 hx => by
      have := of_decide_eq_true hx
      omega⟩⟩ b.1.1 rfl (FU_lt (by omega))
  exact ⟨k, S', e, hI.2.1, hI.2.2.1, hI.2.2.2⟩
end PlaceAds

