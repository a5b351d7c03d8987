/-! appendInput -/
section Bits
theorem b255 : ∀ i : Nat, i < 32 → (255#32).getLsbD i = decide (i < 8) := by decide
theorem b_low (v : BitVec 32) : ((((v.signExtend 8).signExtend 32).signExtend 8).signExtend 32) &&& 255#32 = v &&& 255#32 := by
  apply BitVec.eq_of_getLsbD_eq
  intro i hi
  rw [BitVec.getLsbD_and, BitVec.getLsbD_and, b255 i hi]
  by_cases c : i < 8
  · rw [BitVec.getLsbD_signExtend, BitVec.getLsbD_signExtend, BitVec.getLsbD_signExtend, BitVec.getLsbD_signExtend]
    simp [c, hi]
  · simp [c]
theorem i_low {x : Int} : i_and (i_nb (i_b x)) 255 = i_and x 255 := by
  have e : i_nb (i_b x) = ((Int32.ofInt x).toInt8.toInt32.toInt8.toInt32).toInt := by
    show (vp_nar .byte (Int32.ofInt ((Int32.ofInt x).toInt8.toInt32).toInt)).toInt = _
    rw [Int32.ofInt_toInt]
    rfl
  rw [e]
  unfold i_and
  rw [Int32.ofInt_toInt]
  congr 1
  apply Int32.toBitVec_inj.mp
  rw [Int32.toBitVec_and, Int32.toBitVec_and, Int8.toBitVec_toInt32, Int32.toBitVec_toInt8, Int8.toBitVec_toInt32, Int32.toBitVec_toInt8]
  exact b_low _
theorem i_nb_in {x : Int} : inR (i_nb x) := by
  unfold i_nb
  have h1 := Int32.le_toInt (vp_nar .byte (Int32.ofInt x))
  have h2 := Int32.toInt_lt (vp_nar .byte (Int32.ofInt x))
  exact ⟨by omega, by omega⟩
theorem i_shr0 {x : Int} (h : inR x) : i_shr x 0 = x := by
  unfold i_shr
  have e : (Int32.ofInt 0 &&& 31) = 0 := by decide
  rw [e, Int32.shiftRight_zero]
  exact wr_id h
theorem and255 {x : Int} : 0 ≤ i_and x 255 ∧ i_and x 255 ≤ 255 := by
  have h : i_and x 255 = ((Int32.ofInt x &&& 255).toBitVec).toInt := rfl
  have e : (Int32.ofInt x &&& 255).toBitVec = (Int32.ofInt x).toBitVec &&& 255#32 := rfl
  have q : ((Int32.ofInt x).toBitVec &&& 255#32).toNat ≤ 255 := by
    rw [BitVec.toNat_and]
    exact Nat.and_le_right
  rw [h, e, BitVec.toInt_eq_toNat_cond, if_pos (by omega)]
  omega
end Bits
section Input
variable {S T : St} {W : Vw} {n : Int} {hs : Int → Vw} {w L : Int}
def byt (w i : Int) : Int := i_and (i_shr w (24 - 8 * i)) 255
theorem ln2 : ln 2 = 1600 := by decide
theorem in_c1 {x : Int} (hL : g S 1 1 = L) (h : 0 ≤ L ∧ L < 1600) : ∃ S', fn_Bytes_addByte 1 x S = some S' ∧ Off S S' 1 3 ∧ g S' 1 1 = L + 1 ∧ (∀ j : Int, 0 ≤ j → j < L → g S' 2 j.toNat = g S 2 j.toNat) ∧ g S' 2 L.toNat = i_and x 255 := by
  have a := and255 (x := x)
  refine ⟨u (u S 2 L.toNat (i_and x 255)) 1 1 (L + 1), ?_, (Off.wt (by omega) (by omega)).tu (by omega) (by omega), ?_, fun j j0 j1 => ?_, ?_⟩
  · unfold fn_Bytes_addByte
    rw [show tgt 1 0 = 2 from rfl, ln2, hL, if_neg (by omega), if_neg (by omega), if_pos (by omega), nm_x, nm_x, g_ne (by omega), hL]
  · rw [g_eq, wr_s (by omega) (by omega)]
  · rw [g_ne (by omega), g_ne (by omega)]
  · rw [g_ne (by omega), g_eq, wr_s (by omega) (by omega)]
theorem in_c4 (hw : inR w) (hL : g S 1 1 = L) (h : 0 ≤ L ∧ L + 4 ≤ 1600) : ∃ S', fn_Bytes_addWord 1 w S = some S' ∧ Off S S' 1 3 ∧ g S' 1 1 = L + 4 ∧ (∀ j : Int, 0 ≤ j → j < L → g S' 2 j.toNat = g S 2 j.toNat) ∧ ∀ i : Int, 0 ≤ i → i < 4 → g S' 2 (L + i).toNat = byt w i := by
  obtain ⟨S1, e1, o1, l1, k1, v1⟩ := in_c1 (x := i_shr w 24) hL ⟨h.1, by omega⟩
  obtain ⟨S2, e2, o2, l2, k2, v2⟩ := in_c1 (x := i_shr w 16) l1 ⟨by omega, by omega⟩
  obtain ⟨S3, e3, o3, l3, k3, v3⟩ := in_c1 (x := i_shr w 8) l2 ⟨by omega, by omega⟩
  obtain ⟨S4, e4, o4, l4, k4, v4⟩ := in_c1 (x := w) l3 ⟨by omega, by omega⟩
  refine ⟨S4, ?_, ((o1.trans o2).trans o3).trans o4, by omega, fun j j0 j1 => ?_, fun i i0 i1 => ?_⟩
  · unfold fn_Bytes_addWord
    rw [e1, bnO_s, e2, bnO_s, e3, bnO_s, e4, bnO_s]
  · rw [k4 j j0 (by omega), k3 j j0 (by omega), k2 j j0 (by omega), k1 j j0 j1]
  · have c : i = 0 ∨ i = 1 ∨ i = 2 ∨ i = 3 := by omega
    rcases c with rfl | rfl | rfl | rfl
    · rw [Int.add_zero, k4 L h.1 (by omega), k3 L h.1 (by omega), k2 L h.1 (by omega), v1]; rfl
    · rw [k4 (L + 1) (by omega) (by omega), k3 (L + 1) (by omega) (by omega), v2]; rfl
    · rw [show L + 2 = L + 1 + 1 by omega, k4 (L + 1 + 1) (by omega) (by omega), v3]; rfl
    · rw [show L + 3 = L + 1 + 1 + 1 by omega, v4]
      unfold byt
      rw [show (24 : Int) - 8 * 3 = 0 by decide, i_shr0 hw]
def RI (T T' : St) : Prop := (∀ x f, x ≠ 514 → x ≠ 523 → g T' x f = g T x f) ∧ (∀ f, f ≠ 14 → g T' 514 f = g T 514 f) ∧ Off T T' 514 524
theorem RI.trans {T' T'' : St} (h : RI T T') (h' : RI T' T'') : RI T T'' := ⟨fun x f h1 h2 => (h'.1 x f h1 h2).trans (h.1 x f h1 h2), fun f h1 => (h'.2.1 f h1).trans (h.2.1 f h1), h.2.2.trans h'.2.2⟩
end Input

