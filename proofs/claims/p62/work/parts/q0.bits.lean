/-! A TEXT INTO THE INPUT: bits of a word -/
section BitsW
theorem ofN {n : Nat} : (Int32.ofInt (n : Int)).toBitVec = BitVec.ofNat 32 n := BitVec.ofInt_natCast 32 n
theorem toI_N {n : Nat} (h : n < 2147483648) : (BitVec.ofNat 32 n).toInt = (n : Int) := by
  have e : (BitVec.ofNat 32 n).toNat = n := by rw [BitVec.toNat_ofNat]; exact Nat.mod_eq_of_lt (by omega)
  rw [BitVec.toInt_eq_toNat_of_lt (by rw [e]; omega), e]
theorem i_orN {a b : Nat} (ha : a < 2147483648) (hb : b < 2147483648) : i_or (a : Int) (b : Int) = ((a ||| b : Nat) : Int) := by
  have l : a ||| b < 2 ^ 31 := Nat.or_lt_two_pow (by omega) (by omega)
  have e : (Int32.ofInt (a : Int) ||| Int32.ofInt (b : Int)).toBitVec = BitVec.ofNat 32 (a ||| b) := by
    rw [Int32.toBitVec_or, ofN, ofN]
    apply BitVec.eq_of_toNat_eq
    rw [BitVec.toNat_or, BitVec.toNat_ofNat, BitVec.toNat_ofNat, BitVec.toNat_ofNat, Nat.mod_eq_of_lt (a := a) (by omega), Nat.mod_eq_of_lt (a := b) (by omega), Nat.mod_eq_of_lt (a := a ||| b) (by omega)]
  show (Int32.ofInt (a : Int) ||| Int32.ofInt (b : Int)).toBitVec.toInt = _
  rw [e, toI_N (by omega)]
theorem i_andN {a : Nat} (ha : a < 2147483648) : i_and (a : Int) 255 = ((a % 256 : Nat) : Int) := by
  have e : (Int32.ofInt (a : Int) &&& Int32.ofInt 255).toBitVec = BitVec.ofNat 32 (a % 256) := by
    rw [Int32.toBitVec_and, ofN, show (Int32.ofInt 255).toBitVec = BitVec.ofNat 32 255 from rfl]
    apply BitVec.eq_of_toNat_eq
    rw [BitVec.toNat_and, BitVec.toNat_ofNat, BitVec.toNat_ofNat, BitVec.toNat_ofNat, Nat.mod_eq_of_lt (a := a) (by omega), Nat.mod_eq_of_lt (a := a % 256) (by omega)]
    exact Nat.and_two_pow_sub_one_eq_mod a 8
  show (Int32.ofInt (a : Int) &&& Int32.ofInt 255).toBitVec.toInt = _
  rw [e, toI_N (by omega)]
theorem i_shr24 {n : Nat} (h : n < 2147483648) : i_shr (n : Int) 24 = ((n / 16777216 : Nat) : Int) := by
  have e : (Int32.ofInt (n : Int) >>> (Int32.ofInt 24 &&& 31)).toBitVec = (BitVec.ofNat 32 n).sshiftRight 24 := by
    show (Int32.ofInt (n : Int)).toBitVec.sshiftRight' (BitVec.smod (Int32.ofInt 24 &&& 31).toBitVec 32) = _
    rw [ofN, show BitVec.smod (Int32.ofInt 24 &&& 31).toBitVec 32 = 24#32 from by decide]
    rfl
  show (Int32.ofInt (n : Int) >>> (Int32.ofInt 24 &&& 31)).toBitVec.toInt = _
  rw [e, BitVec.toInt_sshiftRight, toI_N h, Int.shiftRight_eq_div_pow]
  omega
theorem i_shr16 {n : Nat} (h : n < 2147483648) : i_shr (n : Int) 16 = ((n / 65536 : Nat) : Int) := by
  have e : (Int32.ofInt (n : Int) >>> (Int32.ofInt 16 &&& 31)).toBitVec = (BitVec.ofNat 32 n).sshiftRight 16 := by
    show (Int32.ofInt (n : Int)).toBitVec.sshiftRight' (BitVec.smod (Int32.ofInt 16 &&& 31).toBitVec 32) = _
    rw [ofN, show BitVec.smod (Int32.ofInt 16 &&& 31).toBitVec 32 = 16#32 from by decide]
    rfl
  show (Int32.ofInt (n : Int) >>> (Int32.ofInt 16 &&& 31)).toBitVec.toInt = _
  rw [e, BitVec.toInt_sshiftRight, toI_N h, Int.shiftRight_eq_div_pow]
  omega
theorem i_shr8 {n : Nat} (h : n < 2147483648) : i_shr (n : Int) 8 = ((n / 256 : Nat) : Int) := by
  have e : (Int32.ofInt (n : Int) >>> (Int32.ofInt 8 &&& 31)).toBitVec = (BitVec.ofNat 32 n).sshiftRight 8 := by
    show (Int32.ofInt (n : Int)).toBitVec.sshiftRight' (BitVec.smod (Int32.ofInt 8 &&& 31).toBitVec 32) = _
    rw [ofN, show BitVec.smod (Int32.ofInt 8 &&& 31).toBitVec 32 = 8#32 from by decide]
    rfl
  show (Int32.ofInt (n : Int) >>> (Int32.ofInt 8 &&& 31)).toBitVec.toInt = _
  rw [e, BitVec.toInt_sshiftRight, toI_N h, Int.shiftRight_eq_div_pow]
  omega
theorem i_shlC : ∀ c : Nat, c < 128 → i_shl (c : Int) 24 = ((c * 16777216 : Nat) : Int) ∧ i_shl (c : Int) 16 = ((c * 65536 : Nat) : Int) ∧ i_shl (c : Int) 8 = ((c * 256 : Nat) : Int) ∧ i_shl (c : Int) 0 = ((c : Nat) : Int) := by decide +kernel
/-- four bytes, the first so many of them set -/
def wv (c : Nat → Nat) (i w : Nat) : Nat := (if 4 * w < i then c (4 * w) * 16777216 else 0) + (if 4 * w + 1 < i then c (4 * w + 1) * 65536 else 0) + (if 4 * w + 2 < i then c (4 * w + 2) * 256 else 0) + (if 4 * w + 3 < i then c (4 * w + 3) else 0)
theorem wv_v {c : Nat → Nat} (hc : ∀ j, c j < 128) {i w : Nat} : ∃ x0 x1 x2 x3 : Nat, (x0 < 128 ∧ x1 < 128 ∧ x2 < 128 ∧ x3 < 128) ∧ wv c i w = x0 * 16777216 + x1 * 65536 + x2 * 256 + x3 ∧ (4 * w < i → x0 = c (4 * w)) ∧ (4 * w + 1 < i → x1 = c (4 * w + 1)) ∧ (4 * w + 2 < i → x2 = c (4 * w + 2)) ∧ (4 * w + 3 < i → x3 = c (4 * w + 3)) := by
  refine ⟨if 4 * w < i then c (4 * w) else 0, if 4 * w + 1 < i then c (4 * w + 1) else 0, if 4 * w + 2 < i then c (4 * w + 2) else 0, if 4 * w + 3 < i then c (4 * w + 3) else 0, ⟨?_, ?_, ?_, ?_⟩, ?_, fun h => if_pos h, fun h => if_pos h, fun h => if_pos h, fun h => if_pos h⟩
  · split
    · exact hc _
    · decide
  · split
    · exact hc _
    · decide
  · split
    · exact hc _
    · decide
  · split
    · exact hc _
    · decide
  · unfold wv
    congr 1
    · congr 1
      · congr 1
        · split
          · rfl
          · rfl
        · split
          · rfl
          · rfl
      · split
        · rfl
        · rfl
theorem wv_lt {c : Nat → Nat} (hc : ∀ j, c j < 128) {i w : Nat} : wv c i w < 2147483648 := by
  obtain ⟨x0, x1, x2, x3, ⟨b0, b1, b2, b3⟩, e, -⟩ := wv_v hc (i := i) (w := w)
  omega
theorem wv_byt {c : Nat → Nat} (hc : ∀ j, c j < 128) {i w t : Nat} (ht : t < 4) (h : 4 * w + t < i) : byt ((wv c i w : Nat) : Int) (t : Int) = ((c (4 * w + t) : Nat) : Int) := by
  have hl := wv_lt hc (i := i) (w := w)
  obtain ⟨x0, x1, x2, x3, ⟨b0, b1, b2, b3⟩, e, e0, e1, e2, e3⟩ := wv_v hc (i := i) (w := w)
  unfold byt
  have : t = 0 ∨ t = 1 ∨ t = 2 ∨ t = 3 := by omega
  rcases this with rfl | rfl | rfl | rfl
  · rw [show (24 : Int) - 8 * ((0 : Nat) : Int) = 24 from rfl, i_shr24 hl, i_andN (by omega), show 4 * w + 0 = 4 * w from rfl, ← e0 h, e]
    congr 1
    omega
  · rw [show (24 : Int) - 8 * ((1 : Nat) : Int) = 16 from rfl, i_shr16 hl, i_andN (by omega), ← e1 h, e]
    congr 1
    omega
  · rw [show (24 : Int) - 8 * ((2 : Nat) : Int) = 8 from rfl, i_shr8 hl, i_andN (by omega), ← e2 h, e]
    congr 1
    omega
  · rw [show (24 : Int) - 8 * ((3 : Nat) : Int) = 0 from rfl, i_shr0 (by unfold inR; omega), i_andN hl, ← e3 h, e]
    congr 1
    omega
theorem wv_o {c : Nat → Nat} {i w : Nat} (h : w ≠ i / 4) : wv c (i + 1) w = wv c i w := by
  unfold wv
  have a : ∀ t : Nat, t < 4 → ((4 * w + t < i + 1) ↔ 4 * w + t < i) := fun t ht => by omega
  have a0 := a 0 (by decide)
  rw [Nat.add_zero] at a0
  simp only [a0, a 1 (by decide), a 2 (by decide), a 3 (by decide)]
theorem wv_step {c : Nat → Nat} (hc : ∀ j, c j < 128) {i : Nat} : i_or ((wv c i (i / 4) : Nat) : Int) (i_shl ((c i : Nat) : Int) (24 - 8 * ((i % 4 : Nat) : Int))) = ((wv c (i + 1) (i / 4) : Nat) : Int) := by
  obtain ⟨w, hw⟩ : ∃ w, w = i / 4 := ⟨_, rfl⟩
  obtain ⟨s24, s16, s8, s0⟩ := i_shlC (c i) (hc i)
  have ci := hc i
  rw [← hw]
  have : i % 4 = 0 ∨ i % 4 = 1 ∨ i % 4 = 2 ∨ i % 4 = 3 := by omega
  rcases this with q | q | q | q
  · have ei : i = 4 * w := by omega
    rw [q, show (24 : Int) - 8 * ((0 : Nat) : Int) = 24 from rfl, s24]
    have e0 : wv c i w = 0 := by
      unfold wv
      rw [if_neg (by omega), if_neg (by omega), if_neg (by omega), if_neg (by omega)]
    have e1 : wv c (i + 1) w = c i * 16777216 := by
      unfold wv
      rw [if_pos (by omega), if_neg (by omega), if_neg (by omega), if_neg (by omega), ← ei]
      omega
    rw [e0, e1, i_orN (by decide) (by omega), Nat.zero_or]
  · have ei : i = 4 * w + 1 := by omega
    have c0 := hc (4 * w)
    rw [q, show (24 : Int) - 8 * ((1 : Nat) : Int) = 16 from rfl, s16]
    have e0 : wv c i w = c (4 * w) * 16777216 := by
      unfold wv
      rw [if_pos (by omega), if_neg (by omega), if_neg (by omega), if_neg (by omega)]
      omega
    have e1 : wv c (i + 1) w = c (4 * w) * 16777216 + c i * 65536 := by
      unfold wv
      rw [if_pos (by omega), if_pos (by omega), if_neg (by omega), if_neg (by omega), ← ei]
      omega
    have o := Nat.two_pow_add_eq_or_of_lt (i := 24) (b := c i * 65536) (by omega) (c (4 * w))
    have m : 2 ^ 24 * c (4 * w) = c (4 * w) * 16777216 := by omega
    rw [m] at o
    rw [e0, e1, i_orN (by omega) (by omega), ← o]
  · have ei : i = 4 * w + 2 := by omega
    have c0 := hc (4 * w)
    have c1 := hc (4 * w + 1)
    rw [q, show (24 : Int) - 8 * ((2 : Nat) : Int) = 8 from rfl, s8]
    have e0 : wv c i w = c (4 * w) * 16777216 + c (4 * w + 1) * 65536 := by
      unfold wv
      rw [if_pos (by omega), if_pos (by omega), if_neg (by omega), if_neg (by omega)]
      omega
    have e1 : wv c (i + 1) w = c (4 * w) * 16777216 + c (4 * w + 1) * 65536 + c i * 256 := by
      unfold wv
      rw [if_pos (by omega), if_pos (by omega), if_pos (by omega), if_neg (by omega), ← ei]
      omega
    have o := Nat.two_pow_add_eq_or_of_lt (i := 16) (b := c i * 256) (by omega) (c (4 * w) * 256 + c (4 * w + 1))
    have m : 2 ^ 16 * (c (4 * w) * 256 + c (4 * w + 1)) = c (4 * w) * 16777216 + c (4 * w + 1) * 65536 := by omega
    rw [m] at o
    rw [e0, e1, i_orN (by omega) (by omega), ← o]
  · have ei : i = 4 * w + 3 := by omega
    have c0 := hc (4 * w)
    have c1 := hc (4 * w + 1)
    have c2 := hc (4 * w + 2)
    rw [q, show (24 : Int) - 8 * ((3 : Nat) : Int) = 0 from rfl, s0]
    have e0 : wv c i w = c (4 * w) * 16777216 + c (4 * w + 1) * 65536 + c (4 * w + 2) * 256 := by
      unfold wv
      rw [if_pos (by omega), if_pos (by omega), if_pos (by omega), if_neg (by omega)]
      omega
    have e1 : wv c (i + 1) w = c (4 * w) * 16777216 + c (4 * w + 1) * 65536 + c (4 * w + 2) * 256 + c i := by
      unfold wv
      rw [if_pos (by omega), if_pos (by omega), if_pos (by omega), if_pos (by omega), ← ei]
    have o := Nat.two_pow_add_eq_or_of_lt (i := 8) (b := c i) (by omega) (c (4 * w) * 65536 + c (4 * w + 1) * 256 + c (4 * w + 2))
    have m : 2 ^ 8 * (c (4 * w) * 65536 + c (4 * w + 1) * 256 + c (4 * w + 2)) = c (4 * w) * 16777216 + c (4 * w + 1) * 65536 + c (4 * w + 2) * 256 := by omega
    rw [m] at o
    rw [e0, e1, i_orN (by omega) (by omega), ← o]
end BitsW
