/-! describe, the end -/
section Descr3
variable {S T : St} {W : Vw} {n : Int} {hs : Int → Vw} {p : Int}
theorem ds_cap (hG : Good W) (hp : 1 ≤ p ∧ p ≤ pgs W) : (if stOn W p (-1) = -1 then 0 else 1) + cntK W 6 p (nA W).toNat + cntK W 13 p (nB W).toNat + (if lf W p ≤ 0 then 0 else 1) ≤ 4 := by
  by_cases c : stOn W p (-1) = -1
  · have r := hG.2.1.1 p hp.1 hp.2
    have rb := rawR_bd hG.1 (p := p) (a := -1) (b := -1)
    have el : lf W p = rawR W p (-1) (-1) := by
      have e1 : lf W p = room W p (-1) (-1) := by unfold lf lefO; rw [if_pos c]
      have e2 : room W p (-1) (-1) = wr (rawR W p (-1) (-1)) := rfl
      rw [e1, e2, wr_s (by omega) (by omega)]
    have b1 : cntK W 6 p (nA W).toNat ≤ sumR (fun x => szA W p (-1) x) 0 (nA W).toNat := by
      refine sumR_mono (fun j h1 h2 => ?_)
      have v := hG.1.2.1 j h1 (by omega)
      show (if onK W 6 p j = true then (1 : Int) else 0) ≤ szA W p (-1) j
      unfold onK szA
      by_cases d : at_ W 6 j = p
      · rw [if_pos (decide_eq_true d), if_pos ⟨by omega, d⟩]; omega
      · rw [if_neg (by rw [decide_eq_true_eq]; exact d)]
        split <;> omega
    have b2 : cntK W 13 p (nB W).toNat ≤ sumR (fun x => szB W p (-1) x) 0 (nB W).toNat := by
      refine sumR_mono (fun j h1 h2 => ?_)
      have v := hG.1.2.2.2.1 j h1 (by omega)
      show (if onK W 13 p j = true then (1 : Int) else 0) ≤ szB W p (-1) j
      unfold onK szB
      by_cases d : at_ W 13 j = p
      · rw [if_pos (decide_eq_true d), if_pos ⟨by omega, d⟩]; omega
      · rw [if_neg (by rw [decide_eq_true_eq]; exact d)]
        split <;> omega
    have er : rawR W p (-1) (-1) = 4 - sumR (fun x => szA W p (-1) x) 0 (nA W).toNat - sumR (fun x => szB W p (-1) x) 0 (nB W).toNat := by
      unfold rawR sumA sumB
      rw [sumR_neg, sumR_neg]
      have e1 : sumR (fun x => szA W p (-1) x) 0 (nA W).toNat = sumR (szA W p (-1)) 0 (nA W).toNat := rfl
      have e2 : sumR (fun x => szB W p (-1) x) 0 (nB W).toNat = sumR (szB W p (-1)) 0 (nB W).toNat := rfl
      rw [e1, e2]
      omega
    rw [if_pos c, el]
    split <;> omega
  · have lz : lf W p = 0 := by unfold lf lefO; rw [if_neg c]
    rcases stOn_spec hG.1 (p := p) (but := -1) with ⟨g1, _⟩ | ⟨g1, g2, _, g4⟩
    · exact absurd g1 c
    · have w := hG.2.1.2 _ g1 g2 p g4
      have z1 : cntK W 6 p (nA W).toNat = 0 := sumR_0 (fun j h1 h2 => by
        show (if onK W 6 p j = true then (1 : Int) else 0) = 0
        rw [if_neg (by unfold onK; rw [decide_eq_true_eq]; exact w.1 j h1 (by omega))])
      have z2 : cntK W 13 p (nB W).toNat = 0 := sumR_0 (fun j h1 h2 => by
        show (if onK W 13 p j = true then (1 : Int) else 0) = 0
        rw [if_neg (by unfold onK; rw [decide_eq_true_eq]; exact w.2.1 j h1 (by omega))])
      rw [if_neg c, z1, z2, lz]
      decide
def ds0 (W : Vw) (p : Int) : List Int := if stOn W p (-1) = -1 then [] else itB 115 (stOn W p (-1)) []
def dsX (W : Vw) (p : Int) : List Int := itR (dsF W 98 13 p) 0 (nB W).toNat (itR (dsF W 97 6 p) 0 (nA W).toNat (ds0 W p))
def dsE (W : Vw) (p : Int) : List Int := if lf W p ≤ 0 then dsX W p else itB 43 (lf W p) (dsX W p)
theorem ds_len (hG : Good W) (hp : 1 ≤ p ∧ p ≤ pgs W) : ((ds0 W p).length : Int) + 4 * cntK W 6 p (nA W).toNat ≤ 20 ∧ ((itR (dsF W 97 6 p) 0 (nA W).toNat (ds0 W p)).length : Int) + 4 * cntK W 13 p (nB W).toNat ≤ 20 ∧ (lf W p ≤ 0 ∨ (dsX W p).length + 4 ≤ 20) ∧ (dsE W p).length ≤ 20 := by
  have cap := ds_cap hG hp
  have c1 : 0 ≤ cntK W 6 p (nA W).toNat := by
    have q := sumR_mono (w := fun _ => 0) (w' := fun i => if onK W 6 p i = true then 1 else 0) (n := (nA W).toNat) (i := 0) (fun j _ _ => by show (0 : Int) ≤ (if onK W 6 p j = true then 1 else 0); split <;> omega)
    rw [sumR_0 (w := fun _ => 0) (fun _ _ _ => rfl)] at q
    exact q
  have c2 : 0 ≤ cntK W 13 p (nB W).toNat := by
    have q := sumR_mono (w := fun _ => 0) (w' := fun i => if onK W 13 p i = true then 1 else 0) (n := (nB W).toNat) (i := 0) (fun j _ _ => by show (0 : Int) ≤ (if onK W 13 p j = true then 1 else 0); split <;> omega)
    rw [sumR_0 (w := fun _ => 0) (fun _ _ _ => rfl)] at q
    exact q
  have l0 : ((ds0 W p).length : Int) ≤ 4 * (if stOn W p (-1) = -1 then 0 else 1) := by
    unfold ds0
    split
    · exact Int.le_refl _
    · have q := itB_len (l := 115) (x := stOn W p (-1)) (xs := [])
      have e : ([] : List Int).length = 0 := rfl
      rw [e] at q
      omega
  have lA := dsF_len (W := W) (p := p) (l := 97) (k := 6) (xs := ds0 W p) (nA W).toNat
  have lB := dsF_len (W := W) (p := p) (l := 98) (k := 13) (xs := itR (dsF W 97 6 p) 0 (nA W).toNat (ds0 W p)) (nB W).toNat
  have eX : (dsX W p).length = (itR (dsF W 98 13 p) 0 (nB W).toNat (itR (dsF W 97 6 p) 0 (nA W).toNat (ds0 W p))).length := rfl
  rw [← eX] at lB
  have lE : lf W p ≤ 0 ∨ (dsX W p).length + 4 ≤ 20 := by
    by_cases d : lf W p ≤ 0
    · exact .inl d
    · rw [if_neg d] at cap
      exact .inr (by omega)
  have s0 : (0 : Int) ≤ (if lf W p ≤ 0 then 0 else 1) := by split <;> omega
  have s1 : (0 : Int) ≤ (if stOn W p (-1) = -1 then 0 else 1) := by split <;> omega
  refine ⟨by omega, by omega, lE, ?_⟩
  unfold dsE
  by_cases d : lf W p ≤ 0
  · rw [if_pos d]; omega
  · rw [if_neg d]
    have q := itB_len (l := 43) (x := lf W p) (xs := dsX W p)
    have := lE.resolve_left d
    omega
theorem ds_class (h : PT S 5 W) (hG : Good W) (hp : 1 ≤ p ∧ p ≤ pgs W) : ∃ S', fn_FP_describe 0 p S = some (0, ((dsE W p).length : Int), S') ∧ Off S S' 3 5 ∧ DC S' (dsE W p) := by
  have b := h.pl.b
  obtain ⟨n1, n2, n3, n4⟩ := ds_len hG hp
  have lb := lf_bd hG.1 hG.2.1 hp.1 hp.2
  have o0 : Off S (u S 3 1 0) 3 5 := Off.wt (by omega) (by omega)
  have d0 : DC (u S 3 1 0) [] := ⟨by rw [g_eq]; exact wr_s (by decide) (by decide), fun j hj => absurd hj (Nat.not_lt_zero _)⟩
  have eo : g (u S 3 1 0) 31 p.toNat = stOn W p (-1) := (h.off o0 (by omega)).s hp.1 hp.2
  have main : ∀ S1, Off S S1 3 5 → DC S1 (ds0 W p) → ∃ S', (bnO (lo_FP_describe_54 0 p 6 FU (0, S1)) fun p10 => bnO (lo_FP_describe_96 0 p 6 FU (0, p10)) fun p17 => if (g p17 30 p.toNat) ≤ 0 then (some ((0 : Nat), (g p17 3 1), p17)) else (bnO (fn_Bytes_addItem 3 43 (g p17 30 p.toNat) p17) fun p18 => some (0, (g p18 3 1), p18))) = some (0, ((dsE W p).length : Int), S') ∧ Off S S' 3 5 ∧ DC S' (dsE W p) := by
    intro S1 o1 d1
    obtain ⟨S2, e2, o2, d2⟩ := dsA h o1 d1 n1
    obtain ⟨S3, e3, o3, d3⟩ := dsB h o2 d2 n2
    have el : g S3 30 p.toNat = lf W p := (h.off o3 (by omega)).l hp.1 hp.2
    have d3' : DC S3 (dsX W p) := d3
    rw [e2, bnO_s, e3, bnO_s, el]
    unfold dsE
    by_cases d : lf W p ≤ 0
    · rw [if_pos d, if_pos d, d3'.1]
      exact ⟨S3, rfl, o3, d3'⟩
    · obtain ⟨S4, e4, o4, d4⟩ := dc_item (l := 43) (x := lf W p) d3' (n3.resolve_left d) (by decide) ⟨by omega, by omega⟩
      rw [if_neg d, if_neg d, e4, bnO_s, d4.1]
      exact ⟨S4, rfl, o3.trans o4, d4⟩
  unfold fn_FP_describe
  rw [F_needPage h, if_pos hp, bnO_s, if_pos rfl, tg_0_5, nm_x, if_pos (by omega : 0 ≤ p ∧ p < 65), tg_0_3, tg_5_6, tg_5_0, tg_5_5, eo]
  by_cases c : stOn W p (-1) = -1
  · rw [if_pos c]
    exact main _ o0 (by unfold ds0; rw [if_pos c]; exact d0)
  · have sb : 0 ≤ stOn W p (-1) ∧ stOn W p (-1) < nS W := by
      rcases stOn_spec hG.1 (p := p) (but := -1) with ⟨g1, _⟩ | ⟨g1, g2, _⟩
      · exact absurd g1 c
      · exact ⟨g1, g2⟩
    obtain ⟨S1, e1, o1, d1⟩ := dc_item (l := 115) (x := stOn W p (-1)) d0 (by decide) (by decide) ⟨by omega, by omega⟩
    rw [if_neg c, e1, bnO_s]
    exact main S1 (o0.trans o1) (by unfold ds0; rw [if_neg c]; exact d1)
end Descr3

