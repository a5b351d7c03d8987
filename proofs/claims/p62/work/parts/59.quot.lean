/-! fill and quarterPrice -/
section Quot
variable {S T : St} {W : Vw} {n : Int} {hs : Int → Vw}
theorem fil_sum : sumP W (fun p => 4 - lf W p) = 4 * (((pgs W).toNat : Nat) : Int) - sumR (fun p => lf W p) 1 (pgs W).toNat := by
  unfold sumP
  have q : ∀ (m : Nat) (i : Int), sumR (fun p => 4 - lf W p) i m = 4 * (m : Int) - sumR (fun p => lf W p) i m := by
    intro m
    induction m with
    | zero => intro i; rfl
    | succ m ih =>
      intro i
      show (4 - lf W i) + sumR (fun p => 4 - lf W p) (i + 1) m = 4 * ((m + 1 : Nat) : Int) - (lf W i + sumR (fun p => lf W p) (i + 1) m)
      rw [ih (i + 1)]
      omega
  exact q _ _
def filN (W : Vw) : Int := 4 * pgs W - sumR (fun p => lf W p) 1 (pgs W).toNat
theorem filN_bd (hG : Good W) : 0 ≤ filN W ∧ filN W ≤ 4 * pgs W := by
  have b := hG.1.pg
  have q := sumR_bd (w := fun p => lf W p) (l := 0) (h := 4) (n := (pgs W).toNat) (i := 1) (fun j h1 h2 => lf_bd hG.1 hG.2.1 h1 (by omega))
  unfold filN
  omega
def qpN (W : Vw) : Int := sumA W (fun a => if at_ W 6 a ≤ 0 then 0 else at_ W 0 a)
theorem qpN_bd (hG : Good W) : 0 ≤ qpN W ∧ qpN W ≤ 160 := by
  have q := sumR_bd (w := fun a => if at_ W 6 a ≤ 0 then 0 else at_ W 0 a) (l := 0) (h := 4) (n := (nA W).toNat) (i := 0) (fun j h1 h2 => by
    have v := hG.1.2.1 j h1 (by omega)
    show 0 ≤ (if at_ W 6 j ≤ 0 then 0 else at_ W 0 j) ∧ (if at_ W 6 j ≤ 0 then 0 else at_ W 0 j) ≤ 4
    split <;> omega)
  have b := hG.1.1.1
  unfold qpN sumA
  omega
theorem rev_bd (hG : Good W) : 0 ≤ revB W (-1) ∧ revB W (-1) < 100000 := by
  have q := sumR_bd (w := fun a => if at_ W 6 a ≤ 0 then 0 else at_ W 4 a) (l := 0) (h := 999) (n := (nA W).toNat) (i := 0) (fun j h1 h2 => by
    have v := hG.1.2.1 j h1 (by omega)
    show 0 ≤ (if at_ W 6 j ≤ 0 then 0 else at_ W 4 j) ∧ (if at_ W 6 j ≤ 0 then 0 else at_ W 4 j) ≤ 999
    split <;> omega)
  have b := hG.1.1.1
  rw [revB_all]
  unfold sumA
  rw [wr_s (by omega) (by omega)]
  omega
theorem uD_off {x : UInt64} : Off S (uD S 525 0 x) 524 526 := by
  intro a ha
  refine ⟨rfl, rfl, ?_⟩
  funext f'
  exact uD_ne (fun q => by omega)
end Quot

