section Reads2
variable {S T : St} {W : Vw} {n : Int} {hs : Int → Vw}
def getI : Int ⊕ Unit → Int
  | .inl x => x
  | .inr _ => -1
theorem runR_in {σ : Type} {f : Int → σ → σ} {stop : Int → σ → Option (Int ⊕ Unit)} {out : σ → Int ⊕ Unit} (lo hi : Int) (hs : ∀ i s x, lo ≤ i → i < hi → stop i s = some x → inR (getI x)) (ho : ∀ s, inR (getI (out s))) : ∀ (n : Nat) (i : Int) (s : σ), lo ≤ i → i + n ≤ hi → inR (getI (runR f stop out i n s))
  | 0, _, s, _, _ => ho s
  | n + 1, i, s, h1, h2 => by
    show inR (getI ((stop i s).getD _))
    cases e : stop i s with
    | some b => exact hs i s b h1 (by omega) e
    | none => exact runR_in lo hi hs ho n (i + 1) (f i s) (by omega) (by omega)
/-- the k-th of those of which p holds -/
def kth (p : Int → Bool) (k lo : Int) (n : Nat) : Int ⊕ Unit := runR (fun i (c : Int) => if p i = true then c + 1 else c) (fun i c => if p i = true ∧ c = k then some (.inl i) else none) (fun _ => .inr ()) lo n 0
theorem kth_in {p : Int → Bool} {k lo : Int} {n : Nat} (h1 : -1000 ≤ lo) (h2 : lo + n ≤ 1000) : inR (getI (kth p k lo n)) := by
  refine runR_in (-1000) 1000 (fun i s x i1 i2 e => ?_) (fun _ => inRk rfl) n lo 0 h1 h2
  split at e
  · obtain rfl := Option.some.inj e
    show inR i
    exact ⟨by omega, by omega⟩
  · cases e
theorem lp_kthC {body : (Int × Int → Option (Int ⊕ Unit)) → Int × Int → Option (Int ⊕ Unit)} (p : Int → Bool) (k lo B : Int)
    (hx : ∀ go c i, B ≤ i → body go (c, i) = some (.inr ())) (hs : ∀ go c i, lo ≤ i → i < B → 0 ≤ c → c ≤ 1000 → body go (c, i) = if p i = true then (if c = k then some (.inl i) else go (c + 1, i + 1)) else go (c, i + 1)) {n : Nat} (hB : B - lo ≤ 900) (hn : (B - lo).toNat < n) : lp body n (0, lo) = some (kth p k lo (B - lo).toNat) := by
  exact lp_run (body := body) (fun i c => (c, i)) _ _ _ (fun i (c : Int) => lo ≤ i ∧ 0 ≤ c ∧ c ≤ i - lo) B (fun go i c _ h => hx go c i h) (fun go i c hI hi => by
    refine ⟨?_, fun e => ?_⟩
    · rw [hs go c i hI.1 hi hI.2.1 (by omega)]
      by_cases d : p i = true
      · rw [if_pos d]
        by_cases d2 : c = k
        · rw [if_pos d2]; simp only [d, d2, and_self, if_true]
        · rw [if_neg d2]; simp only [d, d2, and_false, if_false, if_true]
      · rw [if_neg d]; simp only [d, false_and, if_false]; rfl
    · split <;> omega) (B - lo).toNat n lo 0 ⟨Int.le_refl _, Int.le_refl _, by omega⟩ rfl hn
theorem lp_kthM {body : (Int × Int → Option (Int ⊕ Unit)) → Int × Int → Option (Int ⊕ Unit)} (p : Int → Bool) (k lo B : Int) (hk : inR k)
    (hx : ∀ go c i, B ≤ i → body go (c, i) = some (.inr ())) (hs : ∀ go c i, lo ≤ i → i < B → body go (c, i) = if p i = true then (if c = 0 then some (.inl i) else go (wr (c + -1), i + 1)) else go (c, i + 1)) {n : Nat} (hB : B - lo ≤ 900) (hn : (B - lo).toNat < n) : lp body n (k, lo) = some (kth p k lo (B - lo).toNat) := by
  have q := lp_run (body := body) (fun i (c : Int) => (wr (k - c), i)) (fun i (c : Int) => if p i = true then c + 1 else c) (fun i c => if p i = true ∧ c = k then some (.inl i) else none) (fun _ => .inr ()) (fun i (c : Int) => lo ≤ i ∧ 0 ≤ c ∧ c ≤ i - lo) B (fun go i c _ h => hx go _ i h) (fun go i c hI hi => by
    have ez : wr (k - c) = 0 ↔ c = k := by
      constructor
      · intro e
        have q : wr (wr (k - c) + c) = wr (k - c + c) := wr_add
        rw [e, Int.zero_add, Int.sub_add_cancel, wr_id hk, wr_s (by omega) (by omega)] at q
        exact q
      · intro e
        rw [e, Int.sub_self]
        exact wr_0
    refine ⟨?_, fun e => ?_⟩
    · rw [hs go _ i hI.1 hi]
      by_cases d : p i = true
      · rw [if_pos d]
        by_cases d2 : c = k
        · rw [if_pos (ez.mpr d2)]; simp only [d, d2, and_self, if_true]
        · rw [if_neg (fun z => d2 (ez.mp z)), show wr (wr (k - c) + -1) = wr (k - (c + 1)) by rw [wr_add]; congr 1; omega]
          simp only [d, d2, and_false, if_false, if_true]
      · rw [if_neg d]; simp only [d, false_and, if_false]; rfl
    · split <;> omega) (B - lo).toNat n lo 0 ⟨Int.le_refl _, Int.le_refl _, by omega⟩ rfl hn
  have e0 : wr (k - 0) = k := by rw [Int.sub_zero, wr_id hk]
  rw [e0] at q
  exact q
/-- a loop that counts an accumulator on -/
theorem lp_acc {body : (Int × Int → Option Int) → Int × Int → Option Int} (f : Int → Int → Int) (lo B : Int)
    (hx : ∀ go a i, B ≤ i → body go (a, i) = some a) (hs : ∀ go a i, lo ≤ i → i < B → body go (a, i) = go (f i a, i + 1)) {n : Nat} {a : Int} (hn : (B - lo).toNat < n) : lp body n (a, lo) = some (itR f lo (B - lo).toNat a) :=
  lp_it (body := body) (fun i s => (s, i)) f id (fun i _ => lo ≤ i) B (fun go i s _ h => hx go s i h) (fun go i s h1 h2 => ⟨hs go s i h1 h2, by omega⟩) (B - lo).toNat n lo a (Int.le_refl _) rfl hn
/-! calls -/
theorem c_adOn (h : PT S 5 W) (hG : Good W) {a : Int} {y : Int} (hi_a : inR a) (hi_y : inR y) (c : 1 ≤ a ∧ a ≤ pgs W) : fn_FP_adOn 0 a y S = some (0, getI (kth (fun i => decide (at_ W 6 i = a)) y 0 (nA W).toNat)) := by
  have b0 := h.pl.b
  unfold fn_FP_adOn
  rw [F_needPage h, if_pos c, bnO_s, if_pos rfl, tg_0_3, tg_5_0, tg_6_0]
  have q : lo_FP_adOn_22 a y 7 S FU (0, 0) = _ := lp_kthC (body := fun go p0 => lb_FP_adOn_22 a y 7 S go p0.1 p0.2) (fun i => decide (at_ W 6 i = a)) y 0 (nA W)
    (fun go z i hi => by
      show lb_FP_adOn_22 a y 7 S go z i = _
      have e : g S 7 7 = nA W := h.pl.mA
      unfold lb_FP_adOn_22
      rw [e, if_pos hi])
    (fun go z i h1 hi z1 z2 => by
      show lb_FP_adOn_22 a y 7 S go z i = _
      have e : g S 7 7 = nA W := h.pl.mA
      have e6 : g S 14 i.toNat = at_ W 6 i := h.pl.a6 ⟨h1, hi⟩
      unfold lb_FP_adOn_22
      rw [e, if_neg (by omega), if_pos (by omega : 0 ≤ i ∧ i < 40), tg_7_6, e6, nm_x, nm_x, wr_s (by omega) (by omega), nm_x, wr_s (by omega) (by omega)]
      simp only [decide_eq_true_eq]) (n := FU) (by omega) (FU_lt (by omega))
  rw [q, Int.sub_zero]
  cases kth (fun i => decide (at_ W 6 i = a)) y 0 (nA W).toNat <;> rfl
theorem m_adOn (hM : MV T W) (hG : Good W) {a : Int} {y : Int} (hi_a : inR a) (hi_y : inR y) (c : 1 ≤ a ∧ a ≤ pgs W) : fn_Mo_adOn 514 a y T = some (getI (kth (fun i => decide (at_ W 6 i = a)) y 0 (nA W).toNat), u T 514 4 0) := by
  have hM1 : MV (u T 514 4 0) W := hM.thr
  have b := hM.b
  have eA : fn_Mo_isPage 514 a (u T 514 4 0) = some true := by rw [Mo_isPage hM1]; exact congrArg some (decide_eq_true c)
  unfold fn_Mo_adOn
  simp only [nm_x, eA, bnO_s, Mo_thr0, if_true, if_false, Bool.false_eq_true]
  have q : lo_Mo_adOn_33 514 a (u T 514 4 0) FU (y, 0) = _ := lp_kthM (body := fun go p0 => lb_Mo_adOn_33 514 a (u T 514 4 0) go p0.1 p0.2) (fun i => decide (at_ W 6 i = a)) y 0 (nA W) hi_y
    (fun go z i hi => by
      show lb_Mo_adOn_33 514 a (u T 514 4 0) go z i = _
      unfold lb_Mo_adOn_33
      rw [tg_514_0, hM1.mA, if_pos hi])
    (fun go z i h1 hi => by
      show lb_Mo_adOn_33 514 a (u T 514 4 0) go z i = _
      have e6 : fn_Mo_ofAd 514 i 6 (u T 514 4 0) = some (at_ W 6 i) := Mo_ofAd hM1 (k := 6) (by omega) ⟨h1, hi⟩
      unfold lb_Mo_adOn_33
      rw [tg_514_0, hM1.mA, if_neg (by omega), e6, bnO_s, nm_x, nm_x, wr_s (z := i + 1) (by omega) (by omega)]
      simp only [decide_eq_true_eq, nm_x]) (n := FU) (by omega) (FU_lt (by omega))
  rw [q, Int.sub_zero]
  cases kth (fun i => decide (at_ W 6 i = a)) y 0 (nA W).toNat <;> rfl
theorem ok_adOn (hI : Inv S) {a : Int} {y : Int} (hi_a : inR a) (hi_y : inR y) : ∃ e S1 r S2, fn_Law_adOn 0 a y 524 S = some (e, S1) ∧ fn_Mo_adOn 514 a y S1 = some (r, S2) ∧ Fin S2 e r := by
  obtain ⟨W, n, hs, hG, hH, hP⟩ := hI
  have h := hP.1.1
  by_cases c : 1 ≤ a ∧ a ≤ pgs W
  · have hv : inR (getI (kth (fun i => decide (at_ W 6 i = a)) y 0 (nA W).toNat)) := by
      have b0 := h.pl.b; exact kth_in (by omega) (by omega)
    refine ⟨0, ul S 524 0 (getI (kth (fun i => decide (at_ W 6 i = a)) y 0 (nA W).toNat)), getI (kth (fun i => decide (at_ W 6 i = a)) y 0 (nA W).toNat), _, ?_, m_adOn (hP.out (Off.wtl (by omega) (by omega))).1.2 hG hi_a hi_y c, fin0 hG hH hP hv⟩
    unfold fn_Law_adOn
    rw [c_adOn h hG hi_a hi_y c]; rfl
  · refine ⟨1, S, 0, u (u S 514 4 0) 514 4 1, ?_, ?_, fin1 hG hH hP (.inl rfl)⟩
    · unfold fn_Law_adOn fn_FP_adOn
      rw [F_needPage h, if_neg c]; rfl
    · have hM1 : MV (u S 514 4 0) W := hP.1.2.thr
      have eA : fn_Mo_isPage 514 a (u S 514 4 0) = some false := by rw [Mo_isPage hM1]; exact congrArg some (decide_eq_false c)
      unfold fn_Mo_adOn
      simp only [nm_x, eA, bnO_s, Mo_thr1, if_true, if_false, Bool.false_eq_true]
theorem c_pageOf (h : PT S 5 W) (hG : Good W) {a : Int} {y : Int} (hi_a : inR a) (hi_y : inR y) (c : 0 ≤ a ∧ a < frm W) : fn_FP_pageOf 0 a y S = some (0, getI (kth (fun i => decide (fOf W i = a)) y 1 (pgs W).toNat)) := by
  have b0 := h.pl.b
  unfold fn_FP_pageOf
  rw [F_needForm h, if_pos c, bnO_s, if_pos rfl]
  have q : lo_FP_pageOf_10 0 a y S FU (0, 1) = _ := lp_kthC (body := fun go p0 => lb_FP_pageOf_10 0 a y S go p0.1 p0.2) (fun i => decide (fOf W i = a)) y 1 (pgs W + 1)
    (fun go z i hi => by
      show lb_FP_pageOf_10 0 a y S go z i = _
      have e : g S 5 1 = pgs W := h.pl.gp
      unfold lb_FP_pageOf_10
      rw [tg_0_3, e, if_pos (by omega)])
    (fun go z i h1 hi z1 z2 => by
      show lb_FP_pageOf_10 0 a y S go z i = _
      have e : g S 5 1 = pgs W := h.pl.gp
      have e6 : g S 28 i.toNat = fOf W i := h.pl.fo h1 (by omega)
      unfold lb_FP_pageOf_10
      rw [tg_0_3, e, if_neg (by omega), if_pos (by omega : 0 ≤ i ∧ i < 65), tg_5_3, e6, nm_x, nm_x, wr_s (by omega) (by omega), nm_x, wr_s (by omega) (by omega)]
      simp only [decide_eq_true_eq]) (n := FU) (by omega) (FU_lt (by omega))
  rw [q, Int.add_sub_cancel]
  cases kth (fun i => decide (fOf W i = a)) y 1 (pgs W).toNat <;> rfl
theorem m_pageOf (hM : MV T W) (hG : Good W) {a : Int} {y : Int} (hi_a : inR a) (hi_y : inR y) (c : 0 ≤ a ∧ a < frm W) : fn_Mo_pageOf 514 a y T = some (getI (kth (fun i => decide (fOf W i = a)) y 1 (pgs W).toNat), u T 514 4 0) := by
  have hM1 : MV (u T 514 4 0) W := hM.thr
  have b := hM.b
  have eA : fn_Mo_isForm 514 a (u T 514 4 0) = some true := by rw [Mo_isForm hM1, decide_eq_true c]
  unfold fn_Mo_pageOf
  simp only [nm_x, eA, bnO_s, Mo_thr0, if_true, if_false, Bool.false_eq_true]
  have q : lo_Mo_pageOf_33 514 a (u T 514 4 0) FU (y, 1) = _ := lp_kthM (body := fun go p0 => lb_Mo_pageOf_33 514 a (u T 514 4 0) go p0.1 p0.2) (fun i => decide (fOf W i = a)) y 1 (pgs W + 1) hi_y
    (fun go z i hi => by
      show lb_Mo_pageOf_33 514 a (u T 514 4 0) go z i = _
      unfold lb_Mo_pageOf_33
      rw [Mo_pageMany hM1, bnO_s, if_pos (by omega)])
    (fun go z i h1 hi => by
      show lb_Mo_pageOf_33 514 a (u T 514 4 0) go z i = _
      unfold lb_Mo_pageOf_33
      rw [Mo_pageMany hM1, bnO_s, if_neg (by omega), Mo_formOf hM1 h1 (by omega), bnO_s, nm_x, nm_x, wr_s (z := i + 1) (by omega) (by omega)]
      simp only [decide_eq_true_eq, nm_x]) (n := FU) (by omega) (FU_lt (by omega))
  rw [q, Int.add_sub_cancel]
  cases kth (fun i => decide (fOf W i = a)) y 1 (pgs W).toNat <;> rfl
theorem ok_pageOf (hI : Inv S) {a : Int} {y : Int} (hi_a : inR a) (hi_y : inR y) : ∃ e S1 r S2, fn_Law_pageOf 0 a y 524 S = some (e, S1) ∧ fn_Mo_pageOf 514 a y S1 = some (r, S2) ∧ Fin S2 e r := by
  obtain ⟨W, n, hs, hG, hH, hP⟩ := hI
  have h := hP.1.1
  by_cases c : 0 ≤ a ∧ a < frm W
  · have hv : inR (getI (kth (fun i => decide (fOf W i = a)) y 1 (pgs W).toNat)) := by
      have b0 := h.pl.b; exact kth_in (by omega) (by omega)
    refine ⟨0, ul S 524 0 (getI (kth (fun i => decide (fOf W i = a)) y 1 (pgs W).toNat)), getI (kth (fun i => decide (fOf W i = a)) y 1 (pgs W).toNat), _, ?_, m_pageOf (hP.out (Off.wtl (by omega) (by omega))).1.2 hG hi_a hi_y c, fin0 hG hH hP hv⟩
    unfold fn_Law_pageOf
    rw [c_pageOf h hG hi_a hi_y c]; rfl
  · refine ⟨1, S, 0, u (u S 514 4 0) 514 4 1, ?_, ?_, fin1 hG hH hP (.inl rfl)⟩
    · unfold fn_Law_pageOf fn_FP_pageOf
      rw [F_needForm h, if_neg c]; rfl
    · have hM1 : MV (u S 514 4 0) W := hP.1.2.thr
      have eA : fn_Mo_isForm 514 a (u S 514 4 0) = some false := by rw [Mo_isForm hM1, decide_eq_false c]
      unfold fn_Mo_pageOf
      simp only [nm_x, eA, bnO_s, Mo_thr1, if_true, if_false, Bool.false_eq_true]
theorem Mo_layLoop (hM : MV S W) (hG : Good W) {s q : Int} (hs : 0 ≤ s ∧ s < nS W) (h1 : 1 ≤ q) (h2 : q + at_ W 7 s - 1 ≤ pgs W) : lo_Mo_storyReasonOf_36 514 s q (at_ W 7 s) S FU (1000000, q) = some (mnR W s q (at_ W 7 s).toNat) := by
  have b := hM.b
  have v := hM.2.2.2.1 s hs.1 hs.2
  have e8 : fn_Mo_ofStory 514 s 1 S = some (at_ W 8 s) := Mo_ofStory hM (k := 1) (by omega) hs
  have q0 := lp_it (body := fun go p0 => lb_Mo_storyReasonOf_36 514 s q (at_ W 7 s) S go p0.1 p0.2) (fun i m => (m, q + i)) (mnS W s q) id (fun i m => 0 ≤ i ∧ (m = 1000000 ∨ (2 ≤ m ∧ m ≤ 4))) (at_ W 7 s)
    (fun go i m _ hi => by
      show lb_Mo_storyReasonOf_36 514 s q (at_ W 7 s) S go m (q + i) = _
      unfold lb_Mo_storyReasonOf_36
      rw [nm_x, wr_s (by omega) (by omega), if_pos (by omega)]; rfl)
    (fun go i m hI hi => by
      have pv := pgR_v (W := W) (s := s) (q := q + i)
      refine ⟨?_, by omega, ?_⟩
      · show lb_Mo_storyReasonOf_36 514 s q (at_ W 7 s) S go m (q + i) = go (mnS W s q i m, q + (i + 1))
        have ip : 1 ≤ q + i ∧ q + i ≤ pgs W := by omega
        unfold lb_Mo_storyReasonOf_36
        rw [nm_x, wr_s (by omega) (by omega), if_neg (by omega), Mo_isPrinted hM ip, bnO_s, Mo_storyOn hM, bnO_s, Mo_roomOn hM, bnO_s, e8, bnO_s, Mo_hasColor hM ip, bnO_s]
        simp only [nm_x, wr_s (z := q + i + 1) (by omega) (by omega)]
        rw [show q + (i + 1) = q + i + 1 by omega]
        unfold mnS pgR
        generalize prP W (q + i) = x1
        generalize stOn W (q + i) s = x2
        generalize room W (q + i) (-1) (-1) = x3
        generalize coP W (q + i) = x4
        generalize at_ W 8 s = x5
        obtain ⟨hI0, hI⟩ := hI
        cases x1
        · rw [if_neg Bool.false_ne_true, if_neg (c := false = true) Bool.false_ne_true]
          by_cases c2 : x2 = -1
          · rw [if_pos c2]
            by_cases c3 : 4 ≤ x3
            · have n3 : ¬ (x2 ≠ -1 ∨ x3 < 4) := by omega
              rw [if_pos c3]
              simp only [if_neg n3]
              by_cases c5 : x5 = 1
              · rw [if_pos c5]
                cases x4
                · have p4 : x5 = 1 ∧ True := ⟨c5, trivial⟩
                  rw [if_neg Bool.false_ne_true]
                  simp only [if_pos p4]
                  rw [if_neg (by decide : ¬ (4 : Int) = 0)]
                  by_cases c6 : m ≤ 4
                  · rw [if_pos c6, if_neg (by omega : ¬ (4 : Int) < m)]
                  · rw [if_neg c6, if_pos (by omega : (4 : Int) < m)]
                · have p4 : ¬ (x5 = 1 ∧ true = false) := fun z => nomatch z.2
                  rw [if_pos rfl]
                  simp only [if_neg p4]
                  rw [if_pos (by omega : m ≤ 1000000)]; rfl
              · have p4 : ¬ (x5 = 1 ∧ x4 = false) := fun z => c5 z.1
                rw [if_neg c5]
                simp only [if_neg p4]
                rw [if_pos (by omega : m ≤ 1000000)]; rfl
            · have n3 : x2 ≠ -1 ∨ x3 < 4 := by omega
              rw [if_neg c3]
              simp only [if_pos n3]
              rw [if_neg (by decide : ¬ (3 : Int) = 0)]
              by_cases c6 : m ≤ 3
              · rw [if_pos c6, if_neg (by omega : ¬ (3 : Int) < m)]
              · rw [if_neg c6, if_pos (by omega : (3 : Int) < m)]
          · have n3 : x2 ≠ -1 ∨ x3 < 4 := .inl c2
            rw [if_neg c2]
            simp only [if_pos n3]
            rw [if_neg (by decide : ¬ (3 : Int) = 0)]
            by_cases c6 : m ≤ 3
            · rw [if_pos c6, if_neg (by omega : ¬ (3 : Int) < m)]
            · rw [if_neg c6, if_pos (by omega : (3 : Int) < m)]
        · rw [if_pos rfl]
          simp only [if_true]
          rw [if_neg (by decide : ¬ (2 : Int) = 0)]
          by_cases c6 : m ≤ 2
          · rw [if_pos c6, if_neg (by omega : ¬ (2 : Int) < m)]
          · rw [if_neg c6, if_pos (by omega : (2 : Int) < m)]
      · unfold mnS
        obtain ⟨hI0, hI⟩ := hI
        repeat' split
        all_goals omega) (at_ W 7 s).toNat FU 0 1000000 ⟨Int.le_refl _, .inl rfl⟩ (by omega) (FU_lt (by omega))
  have q1 : lo_Mo_storyReasonOf_36 514 s q (at_ W 7 s) S FU (1000000, q + 0) = some (mnR W s q (at_ W 7 s).toNat) := q0
  rw [Int.add_zero] at q1
  exact q1
theorem Mo_storyReasonOf (hM : MV S W) (hG : Good W) {s q : Int} (hs : 0 ≤ s ∧ s < nS W) (hin : inR q) : fn_Mo_storyReasonOf 514 s q S = some (layR W s q) := by
  have b := hM.b
  have v := hM.2.2.2.1 s hs.1 hs.2
  have e7 : fn_Mo_ofStory 514 s 0 S = some (at_ W 7 s) := Mo_ofStory hM (k := 0) (by omega) hs
  have e9 : fn_Mo_ofStory 514 s 2 S = some (at_ W 9 s) := Mo_ofStory hM (k := 2) (by omega) hs
  have m := mnR_v (W := W) (s := s) (q := q) (n := (at_ W 7 s).toNat)
  unfold fn_Mo_storyReasonOf layR
  rw [e7, bnO_s, Mo_isPage hM, bnO_s, Mo_pageMany hM, bnO_s]
  by_cases c0 : isP W q = true
  · have c0' := isP_b c0
    rw [if_pos c0, nm_x, wr_s (by omega) (by omega)]
    by_cases c3 : q + at_ W 7 s - 1 ≤ pgs W
    · rw [if_pos c3, if_pos (⟨c0, c3⟩ : isP W q = true ∧ q + at_ W 7 s - 1 ≤ pgs W), Mo_layLoop hM hG hs c0'.1 c3, bnO_s, e9, bnO_s, Mo_isOnSide (by omega), bnO_s]
      generalize mnR W s q (at_ W 7 s).toNat = x at m
      by_cases c4 : x < 1000000
      · rw [if_neg (by omega : ¬ 1000000 ≤ x), if_pos c4]
      · rw [if_pos (by omega : 1000000 ≤ x), if_neg c4]
        cases onSd q (at_ W 9 s) <;> rfl
    · rw [if_neg c3, if_neg (fun z => c3 z.2)]
  · rw [if_neg c0, if_neg (fun z => c0 z.1)]
theorem c_storyReason (h : PT S 5 W) (hG : Good W) {a : Int} {p : Int} (hi_a : inR a) (hi_p : inR p) (c : 0 ≤ a ∧ a < nS W) : fn_FP_storyReason 0 a p S = some (0, layR W a p) := by
  unfold fn_FP_storyReason
  rw [F_needStory h, if_pos c, bnO_s, if_pos rfl, tg_0_3, P_layReason h c hi_p, bnO_s]
theorem m_storyReason (hM : MV T W) (hG : Good W) {a : Int} {p : Int} (hi_a : inR a) (hi_p : inR p) (c : 0 ≤ a ∧ a < nS W) : fn_Mo_storyReason 514 a p T = some (layR W a p, u T 514 4 0) := by
  have hM1 : MV (u T 514 4 0) W := hM.thr
  have b := hM.b
  have eA : fn_Mo_isStory 514 a (u T 514 4 0) = some true := by rw [Mo_isStory hM1, decide_eq_true c]
  unfold fn_Mo_storyReason
  simp only [nm_x, eA, bnO_s, Mo_thr0, if_true, if_false, Bool.false_eq_true, Mo_storyReasonOf hM1 hG c hi_p]
theorem ok_storyReason (hI : Inv S) {a : Int} {p : Int} (hi_a : inR a) (hi_p : inR p) : ∃ e S1 r S2, fn_Law_storyReason 0 a p 524 S = some (e, S1) ∧ fn_Mo_storyReason 514 a p S1 = some (r, S2) ∧ Fin S2 e r := by
  obtain ⟨W, n, hs, hG, hH, hP⟩ := hI
  have h := hP.1.1
  by_cases c : 0 ≤ a ∧ a < nS W
  · have hv : inR (layR W a p) := by
      have m := mnR_v (W := W) (s := a) (q := p) (n := (at_ W 7 a).toNat)
      unfold layR
      repeat' split
      all_goals (refine ⟨?_, ?_⟩ <;> omega)
    refine ⟨0, ul S 524 0 (layR W a p), layR W a p, _, ?_, m_storyReason (hP.out (Off.wtl (by omega) (by omega))).1.2 hG hi_a hi_p c, fin0 hG hH hP hv⟩
    unfold fn_Law_storyReason
    rw [c_storyReason h hG hi_a hi_p c]; rfl
  · refine ⟨1, S, 0, u (u S 514 4 0) 514 4 1, ?_, ?_, fin1 hG hH hP (.inl rfl)⟩
    · unfold fn_Law_storyReason fn_FP_storyReason
      rw [F_needStory h, if_neg c]; rfl
    · have hM1 : MV (u S 514 4 0) W := hP.1.2.thr
      have eA : fn_Mo_isStory 514 a (u S 514 4 0) = some false := by rw [Mo_isStory hM1, decide_eq_false c]
      unfold fn_Mo_storyReason
      simp only [nm_x, eA, bnO_s, Mo_thr1, if_true, if_false, Bool.false_eq_true]
end Reads2
