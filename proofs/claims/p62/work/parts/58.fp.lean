/-! DOUBLES: quotients of small numbers are numbers -/
section Doubles
theorem b64_e : FP.Core.b64.exps = 2048 := rfl
theorem b64_t : FP.Core.b64.tails = 4503599627370496 := rfl
theorem b64_p : 2 ^ FP.Core.b64.p = 9007199254740992 := rfl
theorem b64_q : FP.Core.b64.qmin = -1074 := rfl
theorem b64_x : FP.Core.b64.qmax = 971 := rfl
def nnD (d : FP.Core.Datum) : Prop := (∃ s, d = .inf s) ∨ ∃ s c q, d = .fin s c q ∧ c < 9007199254740992 ∧ q ≤ 971
theorem nn_bound {s : Bool} {c : Nat} {q : Int} (hc : c < 9007199254740992) : nnD (FP.Core.bound FP.Core.b64 s c q) := by
  unfold FP.Core.bound
  rw [b64_x]
  split
  · exact .inr ⟨s, c, q, rfl, hc, by assumption⟩
  · exact .inl ⟨s, rfl⟩
theorem nn_settle {s : Bool} {c : Nat} {q : Int} : nnD (FP.Core.settle FP.Core.b64 s c q) := by
  unfold FP.Core.settle
  rw [b64_p, b64_t]
  split
  · exact nn_bound (by assumption)
  · exact nn_bound (by decide)
theorem nn_ratio {s : Bool} {n d : Nat} {e : Int} : nnD (FP.Core.roundRatio FP.Core.b64 s n d e) := by
  unfold FP.Core.roundRatio
  split
  · exact .inr ⟨s, 0, _, rfl, by decide, by rw [b64_q]; decide⟩
  · exact nn_settle
theorem enc_fin {s : Bool} {c : Nat} {q : Int} : FP.Core.encode FP.Core.b64 (.fin s c q) = if c < FP.Core.b64.tails then FP.Core.assemble FP.Core.b64 s 0 c else FP.Core.assemble FP.Core.b64 s ((q - FP.Core.b64.qmin).toNat + 1) (c - FP.Core.b64.tails) := rfl
theorem dec_n {n : Nat} : FP.Core.decode FP.Core.b64 n = if FP.Core.fieldE FP.Core.b64 n = FP.Core.b64.exps - 1 then (if FP.Core.fieldT FP.Core.b64 n = 0 then .inf (FP.Core.fieldS FP.Core.b64 n) else .nan) else if FP.Core.fieldE FP.Core.b64 n = 0 then .fin (FP.Core.fieldS FP.Core.b64 n) (FP.Core.fieldT FP.Core.b64 n) FP.Core.b64.qmin else .fin (FP.Core.fieldS FP.Core.b64 n) (FP.Core.b64.tails + FP.Core.fieldT FP.Core.b64 n) (FP.Core.b64.qmin + ((FP.Core.fieldE FP.Core.b64 n : Int) - 1)) := rfl
theorem fE {n : Nat} : FP.Core.fieldE FP.Core.b64 n = n / 4503599627370496 % 2048 := rfl
theorem fT {n : Nat} : FP.Core.fieldT FP.Core.b64 n = n % 4503599627370496 := rfl
theorem asm {s : Bool} {e t : Nat} : FP.Core.assemble FP.Core.b64 s e t = (s.toNat * 2048 + e) * 4503599627370496 + t := rfl
theorem quot_fin {s t : Bool} {c d : Nat} {q r : Int} : FP.Core.quotient FP.Core.b64 (.fin s c q) (.fin t d r) = if d = 0 then (if c = 0 then .nan else .inf (s != t)) else FP.Core.roundRatio FP.Core.b64 (s != t) c d (q - r) := rfl
theorem enc_nn {d : FP.Core.Datum} (h : nnD d) : FP.Core.encode FP.Core.b64 d % 9223372036854775808 ≤ 9218868437227405312 := by
  rcases h with ⟨s, rfl⟩ | ⟨s, c, q, rfl, hc, hq⟩
  · unfold FP.Core.encode FP.Core.assemble
    simp only [b64_e, b64_t]
    cases s
    · decide
    · decide
  · rw [enc_fin]
    by_cases c1 : c < FP.Core.b64.tails
    · rw [if_pos c1, asm]
      rw [b64_t] at c1
      cases s
      · rw [show Bool.toNat false = 0 from rfl]; omega
      · rw [show Bool.toNat true = 1 from rfl]; omega
    · rw [if_neg c1, asm, b64_q, b64_t]
      rw [b64_t] at c1
      cases s
      · rw [show Bool.toNat false = 0 from rfl]; omega
      · rw [show Bool.toNat true = 1 from rfl]; omega
theorem mask_nn {n : Nat} (h : n % 9223372036854775808 ≤ 9218868437227405312) : (UInt64.ofNat n &&& 0x7fffffffffffffff) ≤ 0x7ff0000000000000 := by
  rw [UInt64.le_iff_toNat_le, UInt64.toNat_and]
  have e1 : (0x7fffffffffffffff : UInt64).toNat = 2 ^ 63 - 1 := rfl
  have e2 : (0x7ff0000000000000 : UInt64).toNat = 9218868437227405312 := rfl
  rw [e1, e2, Nat.and_two_pow_sub_one_eq_mod]
  have e3 : (UInt64.ofNat n).toNat = n % 2 ^ 64 := rfl
  rw [e3]
  omega
theorem dec_int {a : Int} (h0 : 0 ≤ a) (h1 : a < 100000) : ∃ s c q, FP.Core.decode FP.Core.b64 (i_d a).toNat = .fin s c q ∧ (a ≠ 0 → c ≠ 0) := by
  have ea : (Int32.ofInt a).toInt = a := I_toInt ⟨by omega, by omega⟩
  have en : (i_d a).toNat = FP.Core.encode FP.Core.b64 (FP.Core.round FP.Core.b64 (FP.Core.ofInt a)) % 2 ^ 64 := by
    show (UInt64.ofNat (FP.Core.fromInt FP.Core.b64 (Int32.ofInt a).toInt)).toNat = _
    rw [ea]; rfl
  -- what it is rounded to
  have key : ∃ c q, FP.Core.round FP.Core.b64 (FP.Core.ofInt a) = .fin false c q ∧ c < 9007199254740992 ∧ q ≤ 0 ∧ (a ≠ 0 → c ≠ 0) := by
    have hs : decide (a < 0) = false := decide_eq_false (by omega)
    unfold FP.Core.ofInt FP.Core.round
    rw [hs]
    show ∃ c q, FP.Core.roundRatio FP.Core.b64 false a.natAbs 1 0 = .fin false c q ∧ _
    unfold FP.Core.roundRatio
    by_cases c0 : a.natAbs = 0
    · rw [if_pos c0]
      exact ⟨0, _, rfl, by decide, by rw [b64_q]; decide, fun z => by omega⟩
    · rw [if_neg c0]
      have hl : a.natAbs.log2 < 17 := (Nat.log2_lt c0).mpr (by omega)
      obtain ⟨q, hq⟩ : ∃ q, q = FP.Core.quantum FP.Core.b64 a.natAbs 1 0 := ⟨_, rfl⟩
      have q0 : q ≤ -36 := by
        have l1 : FP.Core.leading a.natAbs 1 ≤ 16 := by
          unfold FP.Core.leading
          have e1 : (1 : Nat).log2 = 0 := by decide
          simp only [e1]
          split <;> omega
        rw [hq]
        unfold FP.Core.quantum
        rw [b64_q, show ((FP.Core.b64.p : Nat) : Int) = 53 from rfl]
        omega
      rw [← hq]
      unfold FP.Core.roundAt FP.Core.nearest FP.Core.unitsNum FP.Core.unitsDen
      have e2 : (q - 0).toNat = 0 := by omega
      rw [e2, show 1 * 2 ^ 0 = 1 from rfl, Nat.mod_one, if_pos (by decide), Nat.div_one]
      have hp : 1 ≤ 2 ^ (0 - q).toNat := Nat.one_le_two_pow
      have hc : 1 ≤ a.natAbs * 2 ^ (0 - q).toNat := Nat.le_trans (by omega) (Nat.mul_le_mul (Nat.one_le_iff_ne_zero.mpr c0) hp)
      generalize a.natAbs * 2 ^ (0 - q).toNat = c at hc
      unfold FP.Core.settle FP.Core.bound
      rw [b64_p, b64_t, b64_x]
      by_cases c1 : c < 9007199254740992
      · rw [if_pos c1, if_pos (by omega)]
        exact ⟨c, q, rfl, c1, by omega, fun _ => by omega⟩
      · rw [if_neg c1, if_pos (by omega)]
        exact ⟨_, _, rfl, by decide, by omega, fun _ => by decide⟩
  obtain ⟨c, q, e, hc, hq, hz⟩ := key
  rw [en, e, enc_fin]
  by_cases c1 : c < FP.Core.b64.tails
  · rw [if_pos c1]
    rw [b64_t] at c1
    have e1 : FP.Core.assemble FP.Core.b64 false 0 c % 2 ^ 64 = c := by
      rw [asm, show Bool.toNat false = 0 from rfl]; omega
    have f1 : FP.Core.fieldE FP.Core.b64 c = 0 := by rw [fE]; omega
    rw [e1, dec_n, if_neg (by rw [f1, b64_e]; decide), if_pos f1]
    exact ⟨_, _, _, rfl, fun z => by have := hz z; rw [fT]; omega⟩
  · rw [if_neg c1]
    rw [b64_t] at c1
    obtain ⟨x, hx⟩ : ∃ x, x = (q - FP.Core.b64.qmin).toNat + 1 := ⟨_, rfl⟩
    rw [← hx]
    rw [b64_q] at hx
    have e1 : FP.Core.assemble FP.Core.b64 false x (c - FP.Core.b64.tails) % 2 ^ 64 = x * 4503599627370496 + (c - 4503599627370496) := by
      rw [asm, b64_t, show Bool.toNat false = 0 from rfl]; omega
    have f1 : FP.Core.fieldE FP.Core.b64 (x * 4503599627370496 + (c - 4503599627370496)) = x := by rw [fE]; omega
    rw [e1, dec_n, if_neg (by rw [f1, b64_e]; omega), if_neg (by rw [f1]; omega)]
    exact ⟨_, _, _, rfl, fun z => by rw [b64_t]; omega⟩
theorem div_nn {a b : Int} (ha : 0 ≤ a ∧ a < 100000) (hb : 1 ≤ b ∧ b < 100000) : (FP.ddiv (i_d a) (i_d b) &&& 0x7fffffffffffffff) ≤ 0x7ff0000000000000 := by
  obtain ⟨s, c, q, e1, -⟩ := dec_int ha.1 ha.2
  obtain ⟨t, d, r, e2, h2⟩ := dec_int (a := b) (by omega) hb.2
  refine mask_nn (n := FP.Core.div FP.Core.b64 (i_d a).toNat (i_d b).toNat) (enc_nn ?_)
  rw [e1, e2, quot_fin, if_neg (h2 (by omega))]
  exact nn_ratio
end Doubles

