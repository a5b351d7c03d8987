/-! MOVING WORLDS: Math, the script, doubles, over whole numbers -/
section WX3
variable {sc : SC} {Y : MI} {mc ms pc k n i : Nat} {ls : List (Nat × Value)} {st : List Value} {ww : List PC} {K : Option Value → List PC → Prop}
def i_dc (x y : UInt64) : Int := (Op.cmpValue (FP.dcmp x y) .l).toInt
theorem wx_dcmpl {x y : UInt64} (hd : decode (mBy Y) pc = .ok (.dcmp .l, 1)) (h : GX sc Y mc ms (pc + 1) ls (V (i_dc x y) :: st) ww k n K) : GX sc Y mc ms pc ls (.double y :: .double x :: st) ww k n K := by
  refine x_dcmp hd ?_
  unfold i_dc at h
  rw [show V (Op.cmpValue (FP.dcmp x y) .l).toInt = .int (Op.cmpValue (FP.dcmp x y) .l) by show Value.int (Int32.ofInt _) = _; rw [Int32.ofInt_toInt]] at h
  exact h
theorem wx_sld {j : Int} (hj : inR j) (h0 : 0 ≤ j ∧ j < (sc.2 : Int)) (hd : decode (mBy Y) pc = .ok (.iaload, 1)) (h : GX sc Y mc ms (pc + 1) ls (V (sc.1 j.toNat).toInt :: st) ww k n K) : GX sc Y mc ms pc ls (V j :: .ref (XB + 200) :: st) ww k n K := by
  have e0 := i_ix hj
  refine x_sld hd (by rw [e0]; exact h0.1) (by rw [e0]; omega) ?_
  rw [e0]
  rw [show V (sc.1 j.toNat).toInt = .int (sc.1 j.toNat) by show Value.int (Int32.ofInt _) = _; rw [Int32.ofInt_toInt]] at h
  exact h
theorem wx_mmin {a b : Int} (hd : decode (mBy Y) pc = .ok (.invokestatic i, 3)) (h1 : Cond.methodLink (mNm Y).cls i Lib.Math.min.name ∈ gtbl) (hF : 1 ≤ mFr Y) (hr8 : (st.map fun v => v.category).sum + 13 ≤ mWd Y) (hk : k ≤ mc) (hn : n ≤ ms) (ha : inR a) (hb : inR b) (h : GX sc Y mc ms (pc + 3) ls (V (i_min a b) :: st) ww k n K) : GX sc Y mc ms pc ls (V b :: V a :: st) ww k n K := by
  refine x_mmin hd h1 hF hr8 hk hn ?_
  have e : (if Int32.ofInt b < Int32.ofInt a then Int32.ofInt b else Int32.ofInt a) = Int32.ofInt (i_min a b) := by
    unfold i_min
    simp only [I_lt hb ha]
    split <;> rfl
  rw [e]; exact h
theorem wx_mmax {a b : Int} (hd : decode (mBy Y) pc = .ok (.invokestatic i, 3)) (h1 : Cond.methodLink (mNm Y).cls i Lib.Math.max.name ∈ gtbl) (hF : 1 ≤ mFr Y) (hr8 : (st.map fun v => v.category).sum + 13 ≤ mWd Y) (hk : k ≤ mc) (hn : n ≤ ms) (ha : inR a) (hb : inR b) (h : GX sc Y mc ms (pc + 3) ls (V (i_max a b) :: st) ww k n K) : GX sc Y mc ms pc ls (V b :: V a :: st) ww k n K := by
  refine x_mmax hd h1 hF hr8 hk hn ?_
  have e : (if Int32.ofInt a < Int32.ofInt b then Int32.ofInt b else Int32.ofInt a) = Int32.ofInt (i_max a b) := by
    unfold i_max
    simp only [I_lt ha hb]
    split <;> rfl
  rw [e]; exact h
theorem wx_mabs {a : Int} (hd : decode (mBy Y) pc = .ok (.invokestatic i, 3)) (h1 : Cond.methodLink (mNm Y).cls i Lib.Math.abs.name ∈ gtbl) (hF : 1 ≤ mFr Y) (hr8 : (st.map fun v => v.category).sum + 13 ≤ mWd Y) (hk : k ≤ mc) (hn : n ≤ ms) (ha : inR a) (h : GX sc Y mc ms (pc + 3) ls (V (i_abs a) :: st) ww k n K) : GX sc Y mc ms pc ls (V a :: st) ww k n K := by
  refine x_mabs hd h1 hF hr8 hk hn ?_
  have e : (if 0 ≤ Int32.ofInt a then Int32.ofInt a else 0 - Int32.ofInt a) = Int32.ofInt (i_abs a) := by
    unfold i_abs
    rw [I_0]
    simp only [I_le inR0 ha]
    split
    · rfl
    · rw [← Int32.ofInt_sub]
  rw [e]; exact h
end WX3
