/-! describe, the end -/
section Descr3
variable {S T : St} {W : Vw} {n : Int} {hs : Int → Vw} {p : Int}
theorem ds_cap (hG : Good W) (hp : 1 ≤ p ∧ p ≤ pgs W) : (if stOn W p (-1) = -1 then 0 else 1) + cntK W 6 p (nA W).toNat + cntK W 13 p (nB W).toNat + (if lf W p ≤ 0 then 0 else 1) ≤ 4 := by
  by_cases c : stOn W p (-1) = -1
  · have r := hG.2.1.1 p hp.1 hp.2
    have rb := rawR_bd hG.1 (p := p) (a := -1) (b := -1)
    have el : lf W p = rawR W p (-1) (-1) := by
      have e1 : lf W p = room W p (-1) (-1) := by unfold lf lefO; rw [if_pos c]
      have e2 : room W p (-1) (-1) = wr (rawR W p (-1) (-1)) := rfl
      rw [e1, e2, wr_s (by omega) (by omega)]
    have b1 : cntK W 6 p (nA W).toNat ≤ sumR (fun x => szA W p (-1) x) 0 (nA W).toNat := by
      refine sumR_mono (fun j h1 h2 => ?_)
      have v := hG.1.2.1 j h1 (by omega)
      show (if onK W 6 p j = true then (1 : Int) else 0) ≤ szA W p (-1) j
      unfold onK szA
      by_cases d : at_ W 6 j = p
      · rw [if_pos (decide_eq_true d), if_pos ⟨by omega, d⟩]; omega
      · rw [if_neg (by rw [decide_eq_true_eq]; exact d)]
        split <;> omega
    have b2 : cntK W 13 p (nB W).toNat ≤ sumR (fun x => szB W p (-1) x) 0 (nB W).toNat := by
      refine sumR_mono (fun j h1 h2 => ?_)
      have v := hG.1.2.2.2.1 j h1 (by omega)
      show (if onK W 13 p j = true then (1 : Int) else 0) ≤ szB W p (-1) j
      unfold onK szB
      by_cases d : at_ W 13 j = p
      · rw [if_pos (decide_eq_true d), if_pos ⟨by omega, d⟩]; omega
      · rw [if_neg (by rw [decide_eq_true_eq]; exact d)]
        split <;> omega
    have er : rawR W p (-1) (-1) = 4 - sumR (fun x => szA W p (-1) x) 0 (nA W).toNat - sumR (fun x => szB W p (-1) x) 0 (nB W).toNat := by
      unfold rawR sumA sumB
      rw [sumR_neg, sumR_neg]
      have e1 : sumR (fun x => szA W p (-1) x) 0 (nA W).toNat = sumR (szA W p (-1)) 0 (nA W).toNat := rfl
      have e2 : sumR (fun x => szB W p (-1) x) 0 (nB W).toNat = sumR (szB W p (-1)) 0 (nB W).toNat := rfl
      rw [e1, e2]
      omega
    rw [if_pos c, el]
    split <;> omega
  · have lz : lf W p = 0 := by unfold lf lefO; rw [if_neg c]
    rcases stOn_spec hG.1 (p := p) (but := -1) with ⟨g1, _⟩ | ⟨g1, g2, _, g4⟩
    · exact absurd g1 c
    · have w := hG.2.1.2 _ g1 g2 p g4
      have z1 : cntK W 6 p (nA W).toNat = 0 := sumR_0 (fun j h1 h2 => by
        show (if onK W 6 p j = true then (1 : Int) else 0) = 0
        rw [if_neg (by unfold onK; rw [decide_eq_true_eq]; exact w.1 j h1 (by omega))])
      have z2 : cntK W 13 p (nB W).toNat = 0 := sumR_0 (fun j h1 h2 => by
        show (if onK W 13 p j = true then (1 : Int) else 0) = 0
        rw [if_neg (by unfold onK; rw [decide_eq_true_eq]; exact w.2.1 j h1 (by omega))])
      rw [if_neg c, z1, z2, lz]
      decide
def ds0 (W : Vw) (p : Int) : List Int := if stOn W p (-1) = -1 then [] else itB 115 (stOn W p (-1)) []
def dsX (W : Vw) (p : Int) : List Int := itR (dsF W 98 13 p) 0 (nB W).toNat (itR (dsF W 97 6 p) 0 (nA W).toNat (ds0 W p))
def dsE (W : Vw) (p : Int) : List Int := if lf W p ≤ 0 then dsX W p else itB 43 (lf W p) (dsX W p)
theorem ds_len (hG : Good W) (hp : 1 ≤ p ∧ p ≤ pgs W) : ((ds0 W p).length : Int) + 4 * cntK W 6 p (nA W).toNat ≤ 20 ∧ ((itR (dsF W 97 6 p) 0 (nA W).toNat (ds0 W p)).length : Int) + 4 * cntK W 13 p (nB W).toNat ≤ 20 ∧ (lf W p ≤ 0 ∨ (dsX W p).length + 4 ≤ 20) ∧ (dsE W p).length ≤ 20 := by
  have cap := ds_cap hG hp
  have c1 : 0 ≤ cntK W 6 p (nA W).toNat := by
    have q := sumR_mono (w := fun _ => 0) (w' := fun i => if onK W 6 p i = true then 1 else 0) (n := (nA W).toNat) (i := 0) (fun j _ _ => by show (0 : Int) ≤ (if onK W 6 p j = true then 1 else 0); split <;> omega)
    rw [sumR_0 (w := fun _ => 0) (fun _ _ _ => rfl)] at q
    exact q
  have c2 : 0 ≤ cntK W 13 p (nB W).toNat := by
    have q := sumR_mono (w := fun _ => 0) (w' := fun i => if onK W 13 p i = true then 1 else 0) (n := (nB W).toNat) (i := 0) (fun j _ _ => by show (0 : Int) ≤ (if onK W 13 p j = true then 1 else 0); split <;> omega)
    rw [sumR_0 (w := fun _ => 0) (fun _ _ _ => rfl)] at q
    exact q
  have l0 : ((ds0 W p).length : Int) ≤ 4 * (if stOn W p (-1) = -1 then 0 else 1) := by
    unfold ds0
    split
    · exact Int.le_refl _
    · have q := itB_len (l := 115) (x := stOn W p (-1)) (xs := [])
      have e : ([] : List Int).length = 0 := rfl
      rw [e] at q
      omega
  have lA := dsF_len (W := W) (p := p) (l := 97) (k := 6) (xs := ds0 W p) (nA W).toNat
  have lB := dsF_len (W := W) (p := p) (l := 98) (k := 13) (xs := itR (dsF W 97 6 p) 0 (nA W).toNat (ds0 W p)) (nB W).toNat
  have eX : (dsX W p).length = (itR (dsF W 98 13 p) 0 (nB W).toNat (itR (dsF W 97 6 p) 0 (nA W).toNat (ds0 W p))).length := rfl
  rw [← eX] at lB
  have lE : lf W p ≤ 0 ∨ (dsX W p).length + 4 ≤ 20 := by
    by_cases d : lf W p ≤ 0
    · exact .inl d
    · rw [if_neg d] at cap
      exact .inr (by omega)
  have s0 : (0 : Int) ≤ (if lf W p ≤ 0 then 0 else 1) := by split <;> omega
  have s1 : (0 : Int) ≤ (if stOn W p (-1) = -1 then 0 else 1) := by split <;> omega
  refine ⟨by omega, by omega, lE, ?_⟩
  unfold dsE
  by_cases d : lf W p ≤ 0
  · rw [if_pos d]; omega
  · rw [if_neg d]
    have q := itB_len (l := 43) (x := lf W p) (xs := dsX W p)
    have := lE.resolve_left d
    omega
theorem ds_class (h : PT S 5 W) (hG : Good W) (hp : 1 ≤ p ∧ p ≤ pgs W) : ∃ S', fn_FP_describe 0 p S = some (0, ((dsE W p).length : Int), S') ∧ Off S S' 3 5 ∧ DC S' (dsE W p) := by
  have b := h.pl.b
  obtain ⟨n1, n2, n3, n4⟩ := ds_len hG hp
  have lb := lf_bd hG.1 hG.2.1 hp.1 hp.2
  have o0 : Off S (u S 3 1 0) 3 5 := Off.wt (by omega) (by omega)
  have d0 : DC (u S 3 1 0) [] := ⟨by rw [g_eq]; exact wr_s (by decide) (by decide), fun j hj => absurd hj (Nat.not_lt_zero _)⟩
  have eo : g (u S 3 1 0) 31 p.toNat = stOn W p (-1) := (h.off o0 (by omega)).s hp.1 hp.2
  have main : ∀ S1, Off S S1 3 5 → DC S1 (ds0 W p) → ∃ S', (bnO (lo_FP_describe_54 0 p 6 FU (0, S1)) fun p10 => bnO (lo_FP_describe_96 0 p 6 FU (0, p10)) fun p17 => if (g p17 30 p.toNat) ≤ 0 then (some ((0 : Nat), (g p17 3 1), p17)) else (bnO (fn_Bytes_addItem 3 43 (g p17 30 p.toNat) p17) fun p18 => some (0, (g p18 3 1), p18))) = some (0, ((dsE W p).length : Int), S') ∧ Off S S' 3 5 ∧ DC S' (dsE W p) := by
    intro S1 o1 d1
    obtain ⟨S2, e2, o2, d2⟩ := dsA h o1 d1 n1
    obtain ⟨S3, e3, o3, d3⟩ := dsB h o2 d2 n2
    have el : g S3 30 p.toNat = lf W p := (h.off o3 (by omega)).l hp.1 hp.2
    have d3' : DC S3 (dsX W p) := d3
    rw [e2, bnO_s, e3, bnO_s, el]
    unfold dsE
    by_cases d : lf W p ≤ 0
    · rw [if_pos d, if_pos d, d3'.1]
      exact ⟨S3, rfl, o3, d3'⟩
    · obtain ⟨S4, e4, o4, d4⟩ := dc_item (l := 43) (x := lf W p) d3' (n3.resolve_left d) (by decide) ⟨by omega, by omega⟩
      rw [if_neg d, if_neg d, e4, bnO_s, d4.1]
      exact ⟨S4, rfl, o3.trans o4, d4⟩
  unfold fn_FP_describe
  rw [F_needPage h, if_pos hp, bnO_s, if_pos rfl, tg_0_5, nm_x, if_pos (by omega : 0 ≤ p ∧ p < 65), tg_0_3, tg_5_6, tg_5_0, tg_5_5, eo]
  by_cases c : stOn W p (-1) = -1
  · rw [if_pos c]
    exact main _ o0 (by unfold ds0; rw [if_pos c]; exact d0)
  · have sb : 0 ≤ stOn W p (-1) ∧ stOn W p (-1) < nS W := by
      rcases stOn_spec hG.1 (p := p) (but := -1) with ⟨g1, _⟩ | ⟨g1, g2, _⟩
      · exact absurd g1 c
      · exact ⟨g1, g2⟩
    obtain ⟨S1, e1, o1, d1⟩ := dc_item (l := 115) (x := stOn W p (-1)) d0 (by decide) (by decide) ⟨by omega, by omega⟩
    rw [if_neg c, e1, bnO_s]
    exact main S1 (o0.trans o1) (by unfold ds0; rw [if_neg c]; exact d1)
theorem ds_model {T : St} (hM0 : MV T W) (hG : Good W) (hp : 1 ≤ p ∧ p ≤ pgs W) : ∃ T', fn_Mo_describe 514 p T = some (((dsE W p).length : Int), T') ∧ RD (u T 514 4 0) T' ∧ DM T' (dsE W p) := by
  have hM : MV (u T 514 4 0) W := hM0.thr
  have b := hM.b
  obtain ⟨n1, n2, n3, n4⟩ := ds_len hG hp
  have lb := lf_bd hG.1 hG.2.1 hp.1 hp.2
  have ll : lefO W p (-1) (-1) = lf W p := rfl
  have o0 : RD (u T 514 4 0) (u (u T 514 4 0) 514 12 0) := ⟨fun x f h1 h2 => g_ne (by omega), fun f h1 => g_ne (by omega), Off.wt (by omega) (by omega)⟩
  have d0 : DM (u (u T 514 4 0) 514 12 0) [] := ⟨by rw [g_eq]; exact wr_s (by decide) (by decide), fun j hj => absurd hj (Nat.not_lt_zero _)⟩
  have hM1 := o0.mv hM
  have main : ∀ S1, RD (u T 514 4 0) S1 → DM S1 (ds0 W p) → ∃ S', (bnO (lo_Mo_describe_57 514 p FU (0, S1)) fun p14 => bnO (lo_Mo_describe_93 514 p FU (0, p14)) fun p21 => bnO (fn_Mo_left 514 p p21) fun p22 => if p22 ≤ 0 then (some ((g p21 514 12), p21)) else (bnO (fn_Mo_left 514 p p21) fun p23 => bnO (fn_Mo_writeItem 514 43 p23 p21) fun p24 => some ((g p24 514 12), p24))) = some (((dsE W p).length : Int), S') ∧ RD (u T 514 4 0) S' ∧ DM S' (dsE W p) := by
    intro S1 o1 d1
    obtain ⟨S2, e2, o2, d2⟩ := dsMA hM o1 d1 n1
    obtain ⟨S3, e3, o3, d3⟩ := dsMB hM o2 d2 n2
    have d3' : DM S3 (dsX W p) := d3
    rw [e2, bnO_s, e3, bnO_s, Mo_left (o3.mv hM), bnO_s, ll]
    unfold dsE
    by_cases d : lf W p ≤ 0
    · rw [if_pos d, if_pos d, d3'.1]
      exact ⟨S3, rfl, o3, d3'⟩
    · obtain ⟨S4, e4, o4, d4⟩ := dm_item (l := 43) (x := lf W p) d3' (n3.resolve_left d) (by decide) ⟨by omega, by omega⟩
      rw [if_neg d, if_neg d, bnO_s, e4, bnO_s, d4.1]
      exact ⟨S4, rfl, o3.trans o4, d4⟩
  unfold fn_Mo_describe
  rw [nm_x, Mo_isPage hM, bnO_s, if_pos (show isP W p = true from decide_eq_true hp)]
  unfold jf_Mo_describe_19
  rw [Mo_thr0, bnO_s, if_neg Bool.false_ne_true, nm_x, Mo_storyOn hM1, bnO_s]
  by_cases c : stOn W p (-1) = -1
  · rw [if_pos c]
    exact main _ o0 (by unfold ds0; rw [if_pos c]; exact d0)
  · have sb : 0 ≤ stOn W p (-1) ∧ stOn W p (-1) < nS W := by
      rcases stOn_spec hG.1 (p := p) (but := -1) with ⟨g1, _⟩ | ⟨g1, g2, _⟩
      · exact absurd g1 c
      · exact ⟨g1, g2⟩
    obtain ⟨S1, e1, o1, d1⟩ := dm_item (l := 115) (x := stOn W p (-1)) d0 (by decide) (by decide) ⟨by omega, by omega⟩
    rw [if_neg c, bnO_s, e1, bnO_s]
    exact main S1 (o0.trans o1) (by unfold ds0; rw [if_neg c]; exact d1)
theorem ds_inv {A B : St} {xs : List Int} {r : Int} (hP : Parts S W n hs) (hG : Good W) (hH : HGd n hs) (oA : Off S A 3 5) (dA : DC A xs) (hl : xs.length ≤ 20) (rB : RD (u (ul A 524 0 r) 514 4 0) B) (dB : DM B xs) : Inv B := by
  have o1 : Off A (ul A 524 0 r) 524 526 := Off.wtl (by omega) (by omega)
  have o2 : Off (ul A 524 0 r) B 514 523 := by
    have : Off (ul A 524 0 r) (u (ul A 524 0 r) 514 4 0) 514 523 := Off.wt (by omega) (by omega)
    exact this.trans rB.2.2
  have mA : MV A W := ⟨by rw [← hP.1.2.1]; exact vM_off oA (by omega), hP.1.2.2⟩
  have m1 : MV (u (ul A 524 0 r) 514 4 0) W := (mA.o5 o1).thr
  have h1 : HMo (u (ul A 524 0 r) 514 4 0) n hs := ((hP.2.1.2.off oA (by omega)).off o1 (by omega)).thr
  have hB : HMo B n hs := h1.low (rB.2.1 1 (by omega)) (rB.2.1 2 (by omega)) (rB.2.1 3 (by omega)) (fun f _ => rB.1 515 _ (by omega) (by omega))
  have gA : ∀ x f, x < 514 → g B x f = g A x f := fun x f hx => by rw [o2.rd (by omega), o1.rd (by omega)]
  have g5 : ∀ x f, x ≠ 3 → x ≠ 4 → x ≠ 514 → x ≠ 522 → x < 524 → g B x f = g S x f := fun x f c1 c2 c3 c4 c5 => by
    rw [rB.1 x f c3 c4, g_ne (by omega), o1.rd (by omega), oA.rd (by omega)]
  have g6 : ∀ f, f ≠ 4 → f ≠ 12 → g B 514 f = g S 514 f := fun f c1 c2 => by
    rw [rB.2.1 f c2, g_ne (by omega), o1.rd (by omega), oA.rd (by omega)]
  refine ⟨W, n, hs, hG, hH, ⟨((hP.1.1.off oA (by omega)).off o1 (by omega)).off o2 (by omega), rB.mv m1⟩, ⟨((hP.2.1.1.off oA (by omega)).off o1 (by omega)).off o2 (by omega), hB⟩, ?_, ?_, ?_⟩
  · have q := hP.2.2.1
    unfold InpR at q ⊢
    simp only [g5 1 _ (by omega) (by omega) (by omega) (by omega) (by omega), g5 2 _ (by omega) (by omega) (by omega) (by omega) (by omega), g5 523 _ (by omega) (by omega) (by omega) (by omega) (by omega), g6 14 (by omega) (by omega)]
    exact q
  · have q := hP.2.2.2.1
    unfold ErrR at q ⊢
    rw [g5 61 _ (by omega) (by omega) (by omega) (by omega) (by omega), g5 61 _ (by omega) (by omega) (by omega) (by omega) (by omega), g6 16 (by omega) (by omega), g6 17 (by omega) (by omega)]
    exact q
  · have eL : g B 3 1 = xs.length := by rw [gA 3 1 (by omega)]; exact dA.1
    refine ⟨by rw [eL]; omega, by rw [eL]; exact dB.1, fun j j0 j1 => ?_⟩
    rw [eL] at j1
    rw [gA 4 _ (by omega), dA.2 j.toNat (by omega), dB.2 j.toNat (by omega)]
theorem ok_describe (hI : Inv S) {a : Int} (hi_a : inR a) : ∃ e S1 r S2, fn_Law_describe 0 a 524 S = some (e, S1) ∧ fn_Mo_describe 514 a S1 = some (r, S2) ∧ Fin S2 e r := by
  obtain ⟨W, n, hs, hG, hH, hP⟩ := hI
  have h := hP.1.1
  by_cases c : 1 ≤ a ∧ a ≤ pgs W
  · obtain ⟨A, e1, oA, dA⟩ := ds_class h hG c
    have n4 := (ds_len hG c).2.2.2
    have o1 : Off A (ul A 524 0 ((dsE W a).length : Int)) 524 526 := Off.wtl (by omega) (by omega)
    have mA : MV A W := ⟨by rw [← hP.1.2.1]; exact vM_off oA (by omega), hP.1.2.2⟩
    obtain ⟨B, e2, rB, dB⟩ := ds_model (mA.o5 o1) hG c
    refine ⟨0, ul A 524 0 ((dsE W a).length : Int), (dsE W a).length, B, ?_, e2, ?_, fun _ => ?_, ds_inv hP hG hH oA dA n4 rB dB⟩
    · unfold fn_Law_describe
      rw [e1]; rfl
    · rw [rB.2.1 4 (by omega), g_eq]; exact wr_s (by decide) (by decide)
    · have q : gl B 524 0 = gl (u (ul A 524 0 ((dsE W a).length : Int)) 514 4 0) 524 0 := rB.2.2.rl (by omega)
      rw [q]
      show gl (ul A 524 0 ((dsE W a).length : Int)) 524 0 = _
      rw [gl_w, if_pos ⟨rfl, rfl⟩]
      exact wl_id (inR_L ⟨by omega, by omega⟩)
  · refine ⟨1, S, 0, u (u S 514 4 0) 514 4 1, ?_, ?_, fin1 hG hH hP (.inl rfl)⟩
    · unfold fn_Law_describe fn_FP_describe
      rw [F_needPage h, if_neg c]; rfl
    · have hM1 : MV (u S 514 4 0) W := hP.1.2.thr
      unfold fn_Mo_describe
      rw [nm_x, Mo_isPage hM1, bnO_s, if_neg (show ¬ isP W a = true from fun q => c (of_decide_eq_true q))]
      unfold jf_Mo_describe_19
      rw [Mo_thr1, bnO_s, if_pos rfl]
end Descr3
