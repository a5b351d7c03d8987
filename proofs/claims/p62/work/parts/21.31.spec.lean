/-! WHAT IS ASKED FOR, over a view -/
def frm (W : Vw) : Int := 2 * sg W
def fOf (W : Vw) (p : Int) : Int := 2 * ((p - 1) / pe W) + (if (p - 1) % pe W % 4 = 0 ∨ (p - 1) % pe W % 4 = 3 then 0 else 1)
def prP (W : Vw) (p : Int) : Bool := decide (at_ W 15 (fOf W p) = 1)
def coP (W : Vw) (p : Int) : Bool := decide (at_ W 14 (fOf W p) = 1)
def cov (W : Vw) (s p : Int) : Bool := decide (0 < at_ W 11 s ∧ at_ W 11 s ≤ p ∧ p < at_ W 11 s + at_ W 7 s)
def stOn (W : Vw) (p but : Int) : Int := fstR (fun s => decide (s ≠ but) && cov W s p) 0 (nS W).toNat
def sumA (W : Vw) (w : Int → Int) : Int := sumR w 0 (nA W).toNat
def sumB (W : Vw) (w : Int → Int) : Int := sumR w 0 (nB W).toNat
def sumS (W : Vw) (w : Int → Int) : Int := sumR w 0 (nS W).toNat
def sumP (W : Vw) (w : Int → Int) : Int := sumR w 1 (pgs W).toNat
def anyA (W : Vw) (w : Int → Bool) : Bool := anyR w 0 (nA W).toNat
def anyS (W : Vw) (w : Int → Bool) : Bool := anyR w 0 (nS W).toNat
def anyP (W : Vw) (w : Int → Bool) : Bool := anyR w 1 (pgs W).toNat
def szA (W : Vw) (p but a : Int) : Int := if a ≠ but ∧ at_ W 6 a = p then at_ W 0 a else 0
def szB (W : Vw) (p but b : Int) : Int := if b ≠ but ∧ at_ W 13 b = p then at_ W 12 b else 0
def room (W : Vw) (p bA bB : Int) : Int := wr (4 + sumA W (fun a => -szA W p bA a) + sumB W (fun b => -szB W p bB b))
def lefO (W : Vw) (p bA bB : Int) : Int := if stOn W p (-1) = -1 then room W p bA bB else 0
def onSd (p side : Int) : Bool := decide (side = 0 ∨ p % 2 = if side = 2 then 1 else 0)
def rivl (W : Vw) (a sp : Int) : Bool := anyA W (fun o => decide (o ≠ a ∧ 0 < at_ W 6 o ∧ at_ W 6 o / 2 = sp ∧ at_ W 1 o = at_ W 1 a)) && decide (at_ W 1 a ≠ 0)
def isP (W : Vw) (p : Int) : Bool := decide (1 ≤ p ∧ p ≤ pgs W)
def reas (W : Vw) (a p : Int) : Int :=
  if isP W p = true then (if prP W p = true then 2 else if lefO W p a (-1) < at_ W 0 a then 3 else if at_ W 2 a = 1 ∧ coP W p = false then 4 else if onSd p (at_ W 3 a) = true then (if rivl W a (p / 2) = true then 6 else 0) else 5) else 1
/-- the reference's block holds W -/
def MV (S : St) (W : Vw) : Prop := vM S 0 = W ∧ Val W
section RefBasics
variable {S : St} {W : Vw} (hM : MV S W)
theorem MV.mA (hM : MV S W) : g S 515 1 = nA W := by rw [← hM.1]; rfl
theorem MV.mS (hM : MV S W) : g S 515 2 = nS W := by rw [← hM.1]; rfl
theorem MV.mB (hM : MV S W) : g S 515 3 = nB W := by rw [← hM.1]; rfl
theorem MV.msg (hM : MV S W) : g S 514 1 = sg W := by rw [← hM.1]; rfl
theorem MV.mpe (hM : MV S W) : g S 514 2 = pe W := by rw [← hM.1]; rfl
theorem MV.mtm (hM : MV S W) : g S 515 0 = tm W := by rw [← hM.1]; rfl
theorem MV.mlo (hM : MV S W) : g S 515 4 = lo_ W := by rw [← hM.1]; rfl
theorem MV.ad (hM : MV S W) {a k : Int} (hk : 0 ≤ k ∧ k < 7) (ha : 0 ≤ a ∧ a < nA W) : g S 515 (29 + 7 * a + k).toNat = at_ W k.toNat a := by
  have q := vM_ad (S := S) (a := a) (k := k.toNat) (by omega) ha.1 (by rw [hM.1]; exact ha.2)
  rw [hM.1, show ((k.toNat : Nat) : Int) = k by omega] at q
  exact q
theorem MV.st (hM : MV S W) {a k : Int} (hk : 0 ≤ k ∧ k < 5) (ha : 0 ≤ a ∧ a < nS W) : g S 515 (309 + 5 * a + k).toNat = at_ W (k.toNat + 7) a := by
  have q := vM_st (S := S) (a := a) (k := k.toNat) (by omega) ha.1 (by rw [hM.1]; exact ha.2)
  rw [hM.1, show ((k.toNat : Nat) : Int) = k by omega] at q
  exact q
theorem MV.sb (hM : MV S W) {a k : Int} (hk : 0 ≤ k ∧ k < 2) (ha : 0 ≤ a ∧ a < nB W) : g S 515 (359 + 2 * a + k).toNat = at_ W (k.toNat + 12) a := by
  have q := vM_sb (S := S) (a := a) (k := k.toNat) (by omega) ha.1 (by rw [hM.1]; exact ha.2)
  rw [hM.1, show ((k.toNat : Nat) : Int) = k by omega] at q
  exact q
theorem MV.fo (hM : MV S W) {a k : Int} (hk : 0 ≤ k ∧ k < 3) (ha : 0 ≤ a ∧ a < 2 * sg W) : g S 515 (5 + 3 * a + k).toNat = at_ W (k.toNat + 14) a := by
  have q := vM_fo (S := S) (a := a) (k := k.toNat) (by omega) ha.1 (by rw [hM.1]; exact ha.2)
  rw [hM.1, show ((k.toNat : Nat) : Int) = k by omega] at q
  exact q
theorem MV.b (hM : MV S W) : (0 ≤ nA W ∧ nA W ≤ 40) ∧ (0 ≤ nS W ∧ nS W ≤ 10) ∧ (0 ≤ nB W ∧ nB W ≤ 8) ∧ (1 ≤ sg W ∧ sg W ≤ 4) ∧ (4 ≤ pe W ∧ pe W ≤ 16) ∧ (0 ≤ tm W ∧ tm W ≤ 9999) ∧ (4 ≤ pgs W ∧ pgs W ≤ 64) := by
  have h := hM.2.1
  have h2 := hM.2.pg
  obtain ⟨h1, h3, h4, h5, h6, h7⟩ := h
  exact ⟨h1, h3, h4, h5, by omega, h7, h2⟩
theorem Mo_ofAd (hM : MV S W) {a k : Int} (hk : 0 ≤ k ∧ k < 7) (ha : 0 ≤ a ∧ a < nA W) : fn_Mo_ofAd 514 a k S = some (at_ W k.toNat a) := by
  have b := hM.b
  unfold fn_Mo_ofAd
  rw [if_pos (by omega), tg_514_0, hM.ad hk ha]
theorem Mo_ofStory (hM : MV S W) {a k : Int} (hk : 0 ≤ k ∧ k < 5) (ha : 0 ≤ a ∧ a < nS W) : fn_Mo_ofStory 514 a k S = some (at_ W (k.toNat + 7) a) := by
  have b := hM.b
  unfold fn_Mo_ofStory
  rw [if_pos (by omega), tg_514_0, hM.st hk ha]
theorem Mo_ofStandby (hM : MV S W) {a k : Int} (hk : 0 ≤ k ∧ k < 2) (ha : 0 ≤ a ∧ a < nB W) : fn_Mo_ofStandby 514 a k S = some (at_ W (k.toNat + 12) a) := by
  have b := hM.b
  unfold fn_Mo_ofStandby
  rw [if_pos (by omega), tg_514_0, hM.sb hk ha]
theorem Mo_ofForm (hM : MV S W) {a k : Int} (hk : 0 ≤ k ∧ k < 3) (ha : 0 ≤ a ∧ a < 2 * sg W) : fn_Mo_ofForm 514 a k S = some (at_ W (k.toNat + 14) a) := by
  have b := hM.b
  unfold fn_Mo_ofForm
  rw [if_pos (by omega), tg_514_0, hM.fo hk ha]
theorem Mo_inRange {a b c : Int} : fn_Mo_inRange a b c S = some (decide (b ≤ a ∧ a ≤ c)) := by
  unfold fn_Mo_inRange
  by_cases h1 : a < b
  · rw [if_pos h1, decide_eq_false (by omega)]
  · rw [if_neg h1]
    by_cases h2 : c < a
    · rw [if_pos h2, decide_eq_false (by omega)]
    · rw [if_neg h2, decide_eq_true (by omega)]
theorem Mo_pageMany (hM : MV S W) : fn_Mo_pageMany 514 S = some (pgs W) := by
  have b := hM.b
  unfold fn_Mo_pageMany
  rw [hM.msg, hM.mpe]
  exact congrArg some (wr_s (by show _ ≤ pgs W; omega) (by show pgs W < _; omega))
theorem Mo_formMany (hM : MV S W) : fn_Mo_formMany 514 S = some (frm W) := by
  have b := hM.b
  unfold fn_Mo_formMany frm
  rw [hM.msg, wr_s (by omega) (by omega)]
theorem Mo_isPage (hM : MV S W) {p : Int} : fn_Mo_isPage 514 p S = some (isP W p) := by
  unfold fn_Mo_isPage isP
  simp only [Mo_pageMany hM, bnO_s, Mo_inRange]
theorem Mo_isAd (hM : MV S W) {a : Int} : fn_Mo_isAd 514 a S = some (decide (0 ≤ a ∧ a < nA W)) := by
  have b := hM.b
  unfold fn_Mo_isAd
  simp only [nm_x, tg_514_0, hM.mA, wr_s (z := nA W - 1) (by omega) (by omega), Mo_inRange, bnO_s]
  congr 2
  exact propext ⟨fun h => by omega, fun h => by omega⟩
theorem Mo_isStory (hM : MV S W) {a : Int} : fn_Mo_isStory 514 a S = some (decide (0 ≤ a ∧ a < nS W)) := by
  have b := hM.b
  unfold fn_Mo_isStory
  simp only [nm_x, tg_514_0, hM.mS, wr_s (z := nS W - 1) (by omega) (by omega), Mo_inRange, bnO_s]
  congr 2
  exact propext ⟨fun h => by omega, fun h => by omega⟩
theorem Mo_isStandby (hM : MV S W) {a : Int} : fn_Mo_isStandby 514 a S = some (decide (0 ≤ a ∧ a < nB W)) := by
  have b := hM.b
  unfold fn_Mo_isStandby
  simp only [nm_x, tg_514_0, hM.mB, wr_s (z := nB W - 1) (by omega) (by omega), Mo_inRange, bnO_s]
  congr 2
  exact propext ⟨fun h => by omega, fun h => by omega⟩
theorem Mo_isForm (hM : MV S W) {a : Int} : fn_Mo_isForm 514 a S = some (decide (0 ≤ a ∧ a < frm W)) := by
  have b := hM.b
  unfold fn_Mo_isForm
  have e : frm W = 2 * sg W := rfl
  simp only [Mo_formMany hM, nm_x, wr_s (z := frm W - 1) (by omega) (by omega), Mo_inRange, bnO_s]
  congr 2
  exact propext ⟨fun h => by omega, fun h => by omega⟩
/-! pages and forms -/
theorem fOf_b (hV : Val W) {p : Int} (h1 : 1 ≤ p) (h2 : p ≤ pgs W) : 0 ≤ fOf W p ∧ fOf W p < frm W := by
  obtain ⟨-, -, -, h3, h4, -⟩ := hV.1
  have e : pgs W = sg W * pe W := rfl
  have e2 : frm W = 2 * sg W := rfl
  have hp : 0 < pe W := by omega
  have q1 : 0 ≤ (p - 1) / pe W := Int.ediv_nonneg (by omega) (by omega)
  have q2 : (p - 1) / pe W < sg W := Int.ediv_lt_of_lt_mul hp (by omega)
  unfold fOf
  split <;> omega
theorem Mo_formOf (hM : MV S W) {p : Int} (h1 : 1 ≤ p) (h2 : p ≤ 1000) : fn_Mo_formOf 514 p S = some (fOf W p) := by
  have b := hM.b
  have q1 : 0 ≤ (p - 1) / pe W := Int.ediv_nonneg (by omega) (by omega)
  have q2 : (p - 1) / pe W ≤ p - 1 := Int.ediv_le_self _ (by omega)
  have q3 := Int.emod_nonneg (p - 1) (b := pe W) (by omega)
  have q4 := Int.emod_lt_of_pos (p - 1) (b := pe W) (by omega)
  unfold fn_Mo_formOf fOf
  simp only [hM.mpe, nm_x, wr_s (z := p - 1) (by omega) (by omega), tm_n (a := p - 1) (b := pe W) (by omega), td_n (a := p - 1) (b := pe W) (by omega), wr_s (z := (p - 1) % pe W) (by omega) (by omega), tm_n (a := (p - 1) % pe W) (b := 4) q3, wr_s (z := (p - 1) % pe W % 4) (by omega) (by omega)]
  rw [if_pos (by omega), if_pos (by omega)]
  by_cases c1 : (p - 1) % pe W % 4 = 0
  · rw [if_pos c1, if_pos (.inl c1), wr_s (by omega) (by omega)]
  · rw [if_neg c1]
    by_cases c2 : (p - 1) % pe W % 4 = 3
    · rw [if_pos c2, if_pos (.inr c2), wr_s (by omega) (by omega)]
    · rw [if_neg c2, if_neg (fun q => q.elim c1 c2), wr_s (by omega) (by omega)]
theorem Mo_isPrinted (hM : MV S W) {p : Int} (h : 1 ≤ p ∧ p ≤ pgs W) : fn_Mo_isPrinted 514 p S = some (prP W p) := by
  have b := hM.b
  have q := fOf_b hM.2 h.1 h.2
  unfold fn_Mo_isPrinted prP
  simp only [Mo_formOf hM h.1 (by omega), bnO_s, Mo_ofForm hM (k := 1) (by omega) q]
  show (if at_ W 15 (fOf W p) = 1 then _ else _) = _
  split
  · rename_i c; rw [decide_eq_true c]
  · rename_i c; rw [decide_eq_false c]
theorem Mo_hasColor (hM : MV S W) {p : Int} (h : 1 ≤ p ∧ p ≤ pgs W) : fn_Mo_hasColor 514 p S = some (coP W p) := by
  have b := hM.b
  have q := fOf_b hM.2 h.1 h.2
  unfold fn_Mo_hasColor coP
  simp only [Mo_formOf hM h.1 (by omega), bnO_s, Mo_ofForm hM (k := 0) (by omega) q]
  show (if at_ W 14 (fOf W p) = 1 then _ else _) = _
  split
  · rename_i c; rw [decide_eq_true c]
  · rename_i c; rw [decide_eq_false c]
theorem Mo_covers (hM : MV S W) {s p : Int} (hs : 0 ≤ s ∧ s < nS W) : fn_Mo_covers 514 s p S = some (cov W s p) := by
  have b := hM.b
  have v := hM.2.2.2.1 s hs.1 hs.2
  have v5 : at_ W 11 s ≤ 64 := by omega
  have e4 : fn_Mo_ofStory 514 s 4 S = some (at_ W 11 s) := Mo_ofStory hM (k := 4) (by omega) hs
  have e0 : fn_Mo_ofStory 514 s 0 S = some (at_ W 7 s) := Mo_ofStory hM (k := 0) (by omega) hs
  unfold fn_Mo_covers cov
  simp only [e4, e0, bnO_s, nm_x, Mo_inRange, wr_s (z := at_ W 11 s + at_ W 7 s - 1) (by omega) (by omega)]
  by_cases c1 : at_ W 11 s ≤ 0
  · rw [if_pos c1, decide_eq_false (by omega)]
  · rw [if_neg c1]
    by_cases c2 : at_ W 11 s ≤ p ∧ p < at_ W 11 s + at_ W 7 s
    · rw [if_pos (decide_eq_true (by omega)), decide_eq_true (by omega)]
    · rw [if_neg (by rw [decide_eq_true_eq]; omega), decide_eq_false (by omega)]
theorem Mo_storyOn (hM : MV S W) {p but : Int} : fn_Mo_storyOn 514 p but S = some (stOn W p but) := by
  have b := hM.b
  have q := lp_fst (body := fun go p0 => lb_Mo_storyOn_2 514 p but S go p0) (fun s => decide (s ≠ but) && cov W s p) (fun i => i) 0 (nS W)
    (fun go i h => by
      show lb_Mo_storyOn_2 514 p but S go i = _
      unfold lb_Mo_storyOn_2
      rw [tg_514_0, hM.mS, if_pos h])
    (fun go i h1 h2 => by
      show lb_Mo_storyOn_2 514 p but S go i = _
      unfold lb_Mo_storyOn_2
      rw [tg_514_0, hM.mS, if_neg (by omega), nm_x, wr_s (by omega) (by omega)]
      by_cases c : i = but
      · rw [if_pos c, decide_eq_false (by omega), Bool.false_and, if_neg Bool.false_ne_true]
      · rw [if_neg c, Mo_covers hM ⟨h1, h2⟩, bnO_s, decide_eq_true c, Bool.true_and]) (n := FU) (Int.le_refl _) (FU_lt (by omega))
  unfold fn_Mo_storyOn stOn
  have q2 : lo_Mo_storyOn_2 514 p but S FU 0 = _ := q
  rw [q2]
  simp only [Int.sub_zero]
  split
  · rename_i c; rw [c]; rfl
  · rfl
end RefBasics
