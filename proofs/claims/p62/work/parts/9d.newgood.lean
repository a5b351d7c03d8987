/-! load: an item more keeps what holds -/
section NewGood
variable {V : Vw} {F : Nat → Int} {q x y s a : Int}
theorem fstR_last {p : Int → Bool} : ∀ {n : Nat} {i : Int}, p (i + n) = false → fstR p i (n + 1) = fstR p i n
  | 0, i, h => by
    show (if p i = true then i else -1) = -1
    rw [show i + ((0 : Nat) : Int) = i by omega] at h
    rw [h, if_neg Bool.false_ne_true]
  | n + 1, i, h => by
    show (if p i = true then i else fstR p (i + 1) (n + 1)) = (if p i = true then i else fstR p (i + 1) n)
    rw [fstR_last (n := n) (i := i + 1) (by rw [show i + 1 + (n : Int) = i + ((n + 1 : Nat) : Int) by omega]; exact h)]
def nwA (V : Vw) (F : Nat → Int) : Vw := nwV V 0 7 0 (nA V) F
def nwS (V : Vw) (F : Nat → Int) : Vw := nwV V 7 12 1 (nS V) F
def nwB (V : Vw) (F : Nat → Int) : Vw := nwV V 12 14 2 (nB V) F
theorem nwA_n : nA (nwA V F) = nA V + 1 ∧ nS (nwA V F) = nS V ∧ nB (nwA V F) = nB V ∧ sg (nwA V F) = sg V ∧ pe (nwA V F) = pe V ∧ tm (nwA V F) = tm V := by
  have e := fun j => nwV_c (V := V) (lo := 0) (hi := 7) (ci := 0) (n := nA V) (F := F) (by decide) j
  exact ⟨e 0, e 1, e 2, e 3, e 4, e 5⟩
theorem nwS_n : nA (nwS V F) = nA V ∧ nS (nwS V F) = nS V + 1 ∧ nB (nwS V F) = nB V ∧ sg (nwS V F) = sg V ∧ pe (nwS V F) = pe V ∧ tm (nwS V F) = tm V := by
  have e := fun j => nwV_c (V := V) (lo := 7) (hi := 12) (ci := 1) (n := nS V) (F := F) (by decide) j
  exact ⟨e 0, e 1, e 2, e 3, e 4, e 5⟩
theorem nwB_n : nA (nwB V F) = nA V ∧ nS (nwB V F) = nS V ∧ nB (nwB V F) = nB V + 1 ∧ sg (nwB V F) = sg V ∧ pe (nwB V F) = pe V ∧ tm (nwB V F) = tm V := by
  have e := fun j => nwV_c (V := V) (lo := 12) (hi := 14) (ci := 2) (n := nB V) (F := F) (by decide) j
  exact ⟨e 0, e 1, e 2, e 3, e 4, e 5⟩
theorem nwA_o (hV : Val V) {k : Nat} (ha : 0 ≤ a) (h : k < 7 → a < nA V) (h17 : k < 17) : at_ (nwA V F) k a = at_ V k a := nwV_o hV.1.1.1 ha (fun z => by have := h z.2; omega) h17
theorem nwS_o (hV : Val V) {k : Nat} (ha : 0 ≤ a) (h : 7 ≤ k → k < 12 → a < nS V) (h17 : k < 17) : at_ (nwS V F) k a = at_ V k a := nwV_o hV.1.2.1.1 ha (fun z => by have := h z.1 z.2; omega) h17
theorem nwB_o (hV : Val V) {k : Nat} (ha : 0 ≤ a) (h : 12 ≤ k → k < 14 → a < nB V) (h17 : k < 17) : at_ (nwB V F) k a = at_ V k a := nwV_o hV.1.2.2.1.1 ha (fun z => by have := h z.1 z.2; omega) h17
theorem nwA_w (hV : Val V) {k : Nat} (h : k < 7) : at_ (nwA V F) k (nA V) = F k := nwV_new hV.1.1.1 ⟨Nat.zero_le _, h⟩
theorem nwS_w (hV : Val V) {k : Nat} (h1 : 7 ≤ k) (h2 : k < 12) : at_ (nwS V F) k (nS V) = F k := nwV_new hV.1.2.1.1 ⟨h1, h2⟩
theorem nwB_w (hV : Val V) {k : Nat} (h1 : 12 ≤ k) (h2 : k < 14) : at_ (nwB V F) k (nB V) = F k := nwV_new hV.1.2.2.1.1 ⟨h1, h2⟩
theorem sum_more {w w' : Int → Int} {n : Int} (hn : 0 ≤ n) (h : ∀ j, 0 ≤ j → j < n → w j = w' j) (h0 : w n = 0) : sumR w 0 (n + 1).toNat = sumR w' 0 n.toNat := by
  rw [show (n + 1).toNat = n.toNat + 1 by omega, sumR_snoc, show (0 : Int) + (n.toNat : Int) = n by omega, h0, Int.add_zero]
  exact sumR_congr (fun j j1 j2 => h j j1 (by omega))
/-! an ad -/
theorem rawR_nwA (hV : Val V) (h6 : F 6 = 0) (hq : 1 ≤ q) : rawR (nwA V F) q x y = rawR V q x y := by
  obtain ⟨n1, n2, n3, n4, n5, n6⟩ := nwA_n (V := V) (F := F)
  unfold rawR sumA sumB
  rw [n1, n3, sum_more (w' := fun a => -szA V q x a) hV.1.1.1 (fun j j1 j2 => by
    show -szA (nwA V F) q x j = -szA V q x j
    unfold szA
    rw [nwA_o hV j1 (fun _ => j2) (by decide), nwA_o hV j1 (fun _ => j2) (by decide)]) (by
    show -szA (nwA V F) q x (nA V) = 0
    unfold szA
    rw [nwA_w hV (by decide : 6 < 7), h6, if_neg (fun z => by omega)]
    rfl)]
  congr 2
theorem stOn_nwA (hV : Val V) : stOn (nwA V F) q y = stOn V q y := by
  unfold stOn
  rw [nwA_n.2.1]
  refine fstR_congr (fun t t1 t2 => ?_)
  unfold cov
  rw [nwA_o hV t1 (by omega) (by decide), nwA_o hV t1 (by omega) (by decide)]
theorem grp_nwA (hV : Val V) (h6 : F 6 = 0) : grp (nwA V F) y s = grp V y s := by
  unfold grp sumA
  rw [nwA_n.1, sum_more (w' := fun a => if at_ V 1 a = y then (if at_ V 6 a ≤ 0 then 0 else if at_ V 6 a / 2 = s then 1 else 0) else 0) hV.1.1.1 (fun j j1 j2 => by
    show (if at_ (nwA V F) 1 j = y then (if at_ (nwA V F) 6 j ≤ 0 then (0 : Int) else if at_ (nwA V F) 6 j / 2 = s then 1 else 0) else 0) = _
    rw [nwA_o hV j1 (fun _ => j2) (by decide), nwA_o hV j1 (fun _ => j2) (by decide)]) (by
    show (if at_ (nwA V F) 1 (nA V) = y then (if at_ (nwA V F) 6 (nA V) ≤ 0 then (0 : Int) else if at_ (nwA V F) 6 (nA V) / 2 = s then 1 else 0) else 0) = 0
    rw [nwA_w hV (by decide : 6 < 7), h6, if_pos (Int.le_refl _)]
    split <;> rfl)]
theorem nwA_add (hV : Val V) (h6 : F 6 = 0) : nwA V F = up (up (addV V (F 0) (F 1) (F 4) (F 5)) 2 (nA V).toNat (F 2)) 3 (nA V).toNat (F 3) := by
  have b := hV.1.1
  funext k i
  unfold nwA nwV up addV
  by_cases c : k < 7 ∧ (i : Int) = nA V
  · have c' : (0 ≤ k ∧ k < 7) ∧ (i : Int) = nA V := ⟨⟨Nat.zero_le _, c.1⟩, c.2⟩
    have ei : i = (nA V).toNat := by omega
    have hk := c.1
    rw [if_pos c']
    have k7 : k = 0 ∨ k = 1 ∨ k = 2 ∨ k = 3 ∨ k = 4 ∨ k = 5 ∨ k = 6 := by omega
    rcases k7 with rfl | rfl | rfl | rfl | rfl | rfl | rfl
    · rw [if_neg (fun z => by omega), if_neg (fun z => by omega), if_pos c]; rfl
    · rw [if_neg (fun z => by omega), if_neg (fun z => by omega), if_pos c]; rfl
    · rw [if_neg (fun z => by omega), if_pos ⟨rfl, ei⟩]
    · rw [if_pos ⟨rfl, ei⟩]
    · rw [if_neg (fun z => by omega), if_neg (fun z => by omega), if_pos c]; rfl
    · rw [if_neg (fun z => by omega), if_neg (fun z => by omega), if_pos c]; rfl
    · rw [if_neg (fun z => by omega), if_neg (fun z => by omega), if_pos c]; exact h6
  · rw [if_neg (fun z => c ⟨z.1.2, z.2⟩), if_neg (c := k = 3 ∧ i = (nA V).toNat) (fun z => c ⟨by omega, by omega⟩), if_neg (c := k = 2 ∧ i = (nA V).toNat) (fun z => c ⟨by omega, by omega⟩), if_neg c]
theorem Good_nwA (hG : Good V) (hn : nA V < 40) (f0 : F 0 = 1 ∨ F 0 = 2 ∨ F 0 = 4) (f1 : 0 ≤ F 1 ∧ F 1 ≤ 9) (f2 : F 2 = 0 ∨ F 2 = 1) (f3 : 0 ≤ F 3 ∧ F 3 ≤ 2) (f4 : 1 ≤ F 4 ∧ F 4 ≤ 999) (f5 : 0 ≤ F 5 ∧ F 5 ≤ 9999) (f6 : F 6 = 0) : Good (nwA V F) := by
  have b := hG.1.1
  have g1 := Good_add hG hn f0 f1 f4 f5
  rw [nwA_add hG.1 f6]
  have g2 := Good_other g1 (k := 2) (i := nA V) (z := F 2) b.1.1 (.inl ⟨rfl, f2, addV_new b.1.1 (by decide)⟩)
  exact Good_other g2 (k := 3) (i := nA V) (z := F 3) b.1.1 (.inr (.inl ⟨rfl, f3, by rw [at_upn (by decide)]; exact addV_new b.1.1 (by decide)⟩))
/-! a story -/
theorem rawR_nwS (hV : Val V) : rawR (nwS V F) q x y = rawR V q x y := by
  obtain ⟨n1, n2, n3, n4, n5, n6⟩ := nwS_n (V := V) (F := F)
  unfold rawR sumA sumB
  rw [n1, n3]
  rfl
theorem cov_nwS (hV : Val V) (hs : 0 ≤ s ∧ s < nS V) : cov (nwS V F) s q = cov V s q := by
  unfold cov
  rw [nwS_o hV hs.1 (fun _ _ => hs.2) (by decide), nwS_o hV hs.1 (fun _ _ => hs.2) (by decide)]
theorem cov_nwS0 (hV : Val V) (f11 : F 11 = 0) : cov (nwS V F) (nS V) q = false := by
  unfold cov
  rw [nwS_w hV (by decide) (by decide : 11 < 12), f11]
  exact decide_eq_false (fun z => by omega)
theorem stOn_nwS (hV : Val V) (f11 : F 11 = 0) : stOn (nwS V F) q y = stOn V q y := by
  have b := hV.1.2.1
  unfold stOn
  rw [nwS_n.2.1, show (nS V + 1).toNat = (nS V).toNat + 1 by omega, fstR_last (by
    rw [show (0 : Int) + ((nS V).toNat : Int) = nS V by omega, cov_nwS0 hV f11, Bool.and_false])]
  refine fstR_congr (fun t t1 t2 => ?_)
  rw [cov_nwS hV ⟨t1, by omega⟩]
theorem grp_nwS (hV : Val V) : grp (nwS V F) y s = grp V y s := by
  unfold grp sumA
  rw [nwS_n.1]
  rfl
theorem fOf_pe {V' : Vw} (h : pe V' = pe V) : fOf V' q = fOf V q := by unfold fOf; rw [h]
theorem Good_nwS (hG : Good V) (hn : nS V < 10) (f7 : 1 ≤ F 7 ∧ F 7 ≤ 8) (f8 : F 8 = 0 ∨ F 8 = 1) (f9 : 0 ≤ F 9 ∧ F 9 ≤ 2) (f10 : 0 ≤ F 10 ∧ F 10 ≤ 9999) (f11 : F 11 = 0) : Good (nwS V F) := by
  obtain ⟨hV, hW, hF, hD⟩ := hG
  obtain ⟨n1, n2, n3, n4, n5, n6⟩ := nwS_n (V := V) (F := F)
  have b := hV.1
  have ep : pgs (nwS V F) = pgs V := by unfold pgs; rw [n4, n5]
  have ef : frm (nwS V F) = frm V := by unfold frm; rw [n4]
  refine ⟨⟨by rw [n1, n2, n3, n4, n5, n6]; omega, fun a a1 a2 => ?_, fun t t1 t2 => ?_, fun c c1 c2 => ?_, fun f f1' f2' => ?_⟩, ⟨fun p p1 p2 => ?_, fun t t1 t2 p pc => ⟨fun a a1 a2 => ?_, fun c c1 c2 => ?_, fun u u1 u2 u3 => ?_⟩⟩, fun a a1 a2 a3 => ?_, fun f g1 g2 g3 => ?_⟩
  · rw [n1] at a2
    rw [ep, nwS_o hV a1 (by omega) (by decide), nwS_o hV a1 (by omega) (by decide), nwS_o hV a1 (by omega) (by decide), nwS_o hV a1 (by omega) (by decide), nwS_o hV a1 (by omega) (by decide), nwS_o hV a1 (by omega) (by decide), nwS_o hV a1 (by omega) (by decide)]
    exact hV.2.1 a a1 a2
  · rw [n2] at t2
    rw [ep]
    by_cases c : t = nS V
    · rw [c, nwS_w hV (by decide) (by decide : 7 < 12), nwS_w hV (by decide) (by decide : 8 < 12), nwS_w hV (by decide) (by decide : 9 < 12), nwS_w hV (by decide) (by decide : 10 < 12), nwS_w hV (by decide) (by decide : 11 < 12)]
      exact ⟨f7, f8, f9, f10, .inl f11⟩
    · have tn : t < nS V := by omega
      rw [nwS_o hV t1 (fun _ _ => tn) (by decide : 7 < 17), nwS_o hV t1 (fun _ _ => tn) (by decide : 8 < 17), nwS_o hV t1 (fun _ _ => tn) (by decide : 9 < 17), nwS_o hV t1 (fun _ _ => tn) (by decide : 10 < 17), nwS_o hV t1 (fun _ _ => tn) (by decide : 11 < 17)]
      exact hV.2.2.1 t t1 tn
  · rw [n3] at c2
    rw [ep, nwS_o hV c1 (by omega) (by decide), nwS_o hV c1 (by omega) (by decide)]
    exact hV.2.2.2.1 c c1 c2
  · rw [n4] at f2'
    rw [nwS_o hV f1' (by omega) (by decide), nwS_o hV f1' (by omega) (by decide), nwS_o hV f1' (by omega) (by decide)]
    exact hV.2.2.2.2 f f1' f2'
  · rw [ep] at p2
    rw [rawR_nwS hV]
    exact hW.1 p p1 p2
  · rw [n2] at t2
    rw [n1] at a2
    have tn : t ≠ nS V := fun z => by rw [z, cov_nwS0 hV f11] at pc; exact Bool.false_ne_true pc
    rw [cov_nwS hV ⟨t1, by omega⟩] at pc
    rw [nwS_o hV a1 (by omega) (by decide)]
    exact (hW.2 t t1 (by omega) p pc).1 a a1 a2
  · rw [n2] at t2
    rw [n3] at c2
    have tn : t ≠ nS V := fun z => by rw [z, cov_nwS0 hV f11] at pc; exact Bool.false_ne_true pc
    rw [cov_nwS hV ⟨t1, by omega⟩] at pc
    rw [nwS_o hV c1 (by omega) (by decide)]
    exact (hW.2 t t1 (by omega) p pc).2.1 c c1 c2
  · rw [n2] at t2 u2
    have tn : t ≠ nS V := fun z => by rw [z, cov_nwS0 hV f11] at pc; exact Bool.false_ne_true pc
    rw [cov_nwS hV ⟨t1, by omega⟩] at pc
    by_cases c : u = nS V
    · rw [c]; exact cov_nwS0 hV f11
    · rw [cov_nwS hV ⟨u1, by omega⟩]
      exact (hW.2 t t1 (by omega) p pc).2.2 u u1 (by omega) u3
  · rw [n1] at a2
    have o6 : at_ (nwS V F) 6 a = at_ V 6 a := nwS_o hV a1 (by omega) (by decide)
    have ev : ∀ z, rivl (nwS V F) a z = rivl V a z := fun z => by
      unfold rivl anyA
      rw [n1, nwS_o hV a1 (by omega) (by decide : 1 < 17)]
      congr 1
    rw [o6] at a3 ⊢
    have eo : coP (nwS V F) (at_ V 6 a) = coP V (at_ V 6 a) := by
      have va := hV.2.1 a a1 a2
      have fo := fOf_b hV (by omega : 1 ≤ at_ V 6 a) va.2.2.2.2.2.2.2
      unfold coP
      rw [fOf_pe n5, nwS_o hV fo.1 (by omega) (by decide)]
    rw [nwS_o hV a1 (by omega) (by decide), nwS_o hV a1 (by omega) (by decide), ev, eo]
    exact hF a a1 a2 a3
  · rw [ef] at g2
    rw [nwS_o hV g1 (by omega) (by decide)] at g3
    rw [nwS_o hV g1 (by omega) (by decide), n6]
    exact hD f g1 g2 g3
/-! a standby -/
theorem rawR_nwB (hV : Val V) (h13 : F 13 = 0) (hq : 1 ≤ q) : rawR (nwB V F) q x y = rawR V q x y := by
  obtain ⟨n1, n2, n3, n4, n5, n6⟩ := nwB_n (V := V) (F := F)
  unfold rawR sumA sumB
  rw [n1, n3, sum_more (w' := fun a => -szB V q y a) hV.1.2.2.1.1 (fun j j1 j2 => by
    show -szB (nwB V F) q y j = -szB V q y j
    unfold szB
    rw [nwB_o hV j1 (fun _ _ => j2) (by decide), nwB_o hV j1 (fun _ _ => j2) (by decide)]) (by
    show -szB (nwB V F) q y (nB V) = 0
    unfold szB
    rw [nwB_w hV (by decide) (by decide : 13 < 14), h13, if_neg (fun z => by omega)]
    rfl)]
  congr 2
theorem cov_nwB (hV : Val V) (hs : 0 ≤ s) : cov (nwB V F) s q = cov V s q := by
  unfold cov
  rw [nwB_o hV hs (by omega) (by decide), nwB_o hV hs (by omega) (by decide)]
theorem stOn_nwB (hV : Val V) : stOn (nwB V F) q y = stOn V q y := by
  unfold stOn
  rw [nwB_n.2.1]
  refine fstR_congr (fun t t1 t2 => ?_)
  rw [cov_nwB hV t1]
theorem grp_nwB (hV : Val V) : grp (nwB V F) y s = grp V y s := by
  unfold grp sumA
  rw [nwB_n.1]
  rfl
theorem Good_nwB (hG : Good V) (hn : nB V < 8) (f12 : F 12 = 1 ∨ F 12 = 2 ∨ F 12 = 4) (f13 : F 13 = 0) : Good (nwB V F) := by
  obtain ⟨hV, hW, hF, hD⟩ := hG
  obtain ⟨n1, n2, n3, n4, n5, n6⟩ := nwB_n (V := V) (F := F)
  have b := hV.1
  have pb := hV.pg
  have ep : pgs (nwB V F) = pgs V := by unfold pgs; rw [n4, n5]
  have ef : frm (nwB V F) = frm V := by unfold frm; rw [n4]
  refine ⟨⟨by rw [n1, n2, n3, n4, n5, n6]; omega, fun a a1 a2 => ?_, fun t t1 t2 => ?_, fun c c1 c2 => ?_, fun f f1' f2' => ?_⟩, ⟨fun p p1 p2 => ?_, fun t t1 t2 p pc => ⟨fun a a1 a2 => ?_, fun c c1 c2 => ?_, fun u u1 u2 u3 => ?_⟩⟩, fun a a1 a2 a3 => ?_, fun f g1 g2 g3 => ?_⟩
  · rw [n1] at a2
    rw [ep, nwB_o hV a1 (by omega) (by decide), nwB_o hV a1 (by omega) (by decide), nwB_o hV a1 (by omega) (by decide), nwB_o hV a1 (by omega) (by decide), nwB_o hV a1 (by omega) (by decide), nwB_o hV a1 (by omega) (by decide), nwB_o hV a1 (by omega) (by decide)]
    exact hV.2.1 a a1 a2
  · rw [n2] at t2
    rw [ep, nwB_o hV t1 (by omega) (by decide), nwB_o hV t1 (by omega) (by decide), nwB_o hV t1 (by omega) (by decide), nwB_o hV t1 (by omega) (by decide), nwB_o hV t1 (by omega) (by decide)]
    exact hV.2.2.1 t t1 t2
  · rw [n3] at c2
    rw [ep]
    by_cases e : c = nB V
    · rw [e, nwB_w hV (by decide) (by decide : 12 < 14), nwB_w hV (by decide) (by decide : 13 < 14), f13]
      exact ⟨f12, by omega, by omega⟩
    · have cn : c < nB V := by omega
      rw [nwB_o hV c1 (fun _ _ => cn) (by decide), nwB_o hV c1 (fun _ _ => cn) (by decide)]
      exact hV.2.2.2.1 c c1 cn
  · rw [n4] at f2'
    rw [nwB_o hV f1' (by omega) (by decide), nwB_o hV f1' (by omega) (by decide), nwB_o hV f1' (by omega) (by decide)]
    exact hV.2.2.2.2 f f1' f2'
  · rw [ep] at p2
    rw [rawR_nwB hV f13 p1]
    exact hW.1 p p1 p2
  · rw [n2] at t2
    rw [n1] at a2
    rw [cov_nwB hV t1] at pc
    rw [nwB_o hV a1 (by omega) (by decide)]
    exact (hW.2 t t1 t2 p pc).1 a a1 a2
  · rw [n2] at t2
    rw [n3] at c2
    rw [cov_nwB hV t1] at pc
    by_cases e : c = nB V
    · rw [e, nwB_w hV (by decide) (by decide : 13 < 14), f13]
      have y := of_decide_eq_true pc
      omega
    · rw [nwB_o hV c1 (fun _ _ => by omega) (by decide)]
      exact (hW.2 t t1 t2 p pc).2.1 c c1 (by omega)
  · rw [n2] at t2 u2
    rw [cov_nwB hV t1] at pc
    rw [cov_nwB hV u1]
    exact (hW.2 t t1 t2 p pc).2.2 u u1 u2 u3
  · rw [n1] at a2
    have o6 : at_ (nwB V F) 6 a = at_ V 6 a := nwB_o hV a1 (by omega) (by decide)
    have ev : ∀ z, rivl (nwB V F) a z = rivl V a z := fun z => by
      unfold rivl anyA
      rw [n1, nwB_o hV a1 (by omega) (by decide : 1 < 17)]
      congr 1
    rw [o6] at a3 ⊢
    have eo : coP (nwB V F) (at_ V 6 a) = coP V (at_ V 6 a) := by
      have va := hV.2.1 a a1 a2
      have fo := fOf_b hV (by omega : 1 ≤ at_ V 6 a) va.2.2.2.2.2.2.2
      unfold coP
      rw [fOf_pe n5, nwB_o hV fo.1 (by omega) (by decide)]
    rw [nwB_o hV a1 (by omega) (by decide), nwB_o hV a1 (by omega) (by decide), ev, eo]
    exact hF a a1 a2 a3
  · rw [ef] at g2
    rw [nwB_o hV g1 (by omega) (by decide)] at g3
    rw [nwB_o hV g1 (by omega) (by decide), n6]
    exact hD f g1 g2 g3
end NewGood

