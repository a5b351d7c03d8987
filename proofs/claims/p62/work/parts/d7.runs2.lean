/-! RUNS OF EMPTY PAGES: the class's count finds the same -/
theorem win_f {W : Vw} {a p q : Int} (h1 : p ≤ q) (h2 : q < p + a) (h : lf W q ≠ 4) : winB W a p = false := by
  unfold winB
  rw [anyR_iff.mpr ⟨q, h1, by omega, decide_eq_true h⟩]
  rfl
theorem win_t {W : Vw} {a p : Int} (h : ∀ q, p ≤ q → q < p + a → lf W q = 4) (ha : 0 ≤ a) : winB W a p = true := by
  unfold winB
  cases e : anyR (fun q => decide (lf W q ≠ 4)) p a.toNat with
  | false => rfl
  | true =>
    obtain ⟨q, h1, h2, h3⟩ := anyR_iff.mp e
    exact absurd (h q h1 (by omega)) (of_decide_eq_true h3)
def FndP (W : Vw) (a X : Int) : Prop := (X = -1 ∧ ∀ p, 1 ≤ p → p + a ≤ pgs W + 1 → winB W a p = false) ∨ ((1 ≤ X ∧ X + a ≤ pgs W + 1) ∧ winB W a X = true ∧ ∀ p, 1 ≤ p → p < X → winB W a p = false)
theorem em_run {W : Vw} (hV : Val W) {a : Int} (ha : 1 ≤ a ∧ a ≤ 64) : ∀ (m : Nat) (i r : Int), i + m = pgs W + 1 → 1 ≤ i → 0 ≤ r → r < a → 1 ≤ i - r → (∀ q, i - r ≤ q → q < i → lf W q = 4) → (∀ p, 1 ≤ p → p < i - r → winB W a p = false) →
    FndP W a (getI (runR (fun i (r : Int) => if lf W i = 4 then r + 1 else 0) (fun i r => if (if lf W i = 4 then r + 1 else 0) = a then some (.inl (wr (i - a + 1))) else none) (fun _ => (.inr () : Int ⊕ Unit)) i m r))
  | 0, i, r, h1, h2, h3, h4, h5, h6, h7 => .inl ⟨rfl, fun p p1 p2 => h7 p p1 (by omega)⟩
  | m + 1, i, r, h1, h2, h3, h4, h5, h6, h7 => by
    have b := hV.pg
    unfold runR
    by_cases c : lf W i = 4
    · rw [if_pos c]
      by_cases d : r + 1 = a
      · rw [if_pos d]
        show FndP W a (wr (i - a + 1))
        rw [wr_s (by omega) (by omega), show i - a + 1 = i - r by omega]
        refine .inr ⟨⟨h5, by omega⟩, win_t (fun q q1 q2 => ?_) (by omega), fun p p1 p2 => h7 p p1 p2⟩
        by_cases e : q = i
        · rw [e]; exact c
        · exact h6 q q1 (by omega)
      · rw [if_neg d]
        refine em_run hV ha m (i + 1) (r + 1) (by omega) (by omega) (by omega) (by omega) (by omega) (fun q q1 q2 => ?_) (fun p p1 p2 => h7 p p1 (by omega))
        by_cases e : q = i
        · rw [e]; exact c
        · exact h6 q (by omega) (by omega)
    · rw [if_neg c, if_neg (by omega)]
      refine em_run hV ha m (i + 1) 0 (by omega) (by omega) (by omega) (by omega) (by omega) (fun q q1 q2 => by omega) (fun p p1 p2 => ?_)
      by_cases e : p < i - r
      · exact h7 p p1 e
      · exact win_f (q := i) (by omega) (by omega) c
theorem FndP.fst {W : Vw} {a X : Int} (h : FndP W a X) (ha : 1 ≤ a) : X = fstR (winB W a) 1 (pgs W - a + 1).toNat := by
  rcases fstR_spec (p := winB W a) (n := (pgs W - a + 1).toNat) (i := 1) (by decide) with ⟨q1, q2⟩ | ⟨q1, q2, q3, q4⟩
  · rw [q1]
    rcases h with ⟨h, -⟩ | ⟨h1, h2, -⟩
    · exact h
    · rw [q2 X h1.1 (by omega)] at h2; cases h2
  · rcases h with ⟨-, h⟩ | ⟨h1, h2, h3⟩
    · rw [h _ q1 (by omega)] at q3; cases q3
    · by_cases e : X < fstR (winB W a) 1 (pgs W - a + 1).toNat
      · rw [q4 X h1.1 e] at h2; cases h2
      · by_cases e2 : fstR (winB W a) 1 (pgs W - a + 1).toNat < X
        · rw [h3 _ q1 e2] at q3; cases q3
        · omega
theorem em_fst {W : Vw} (hV : Val W) {a : Int} (ha : 1 ≤ a ∧ a ≤ 64) : getI (emRn W a) = fstR (winB W a) 1 (pgs W - a + 1).toNat := by
  have b := hV.pg
  refine FndP.fst ?_ ha.1
  exact em_run hV ha (pgs W).toNat 1 0 (by omega) (by decide) (by decide) (by omega) (by decide) (fun q q1 q2 => by omega) (fun p p1 p2 => by omega)
