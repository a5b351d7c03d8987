/-! MATCHINGS: who can be matched -/
section Hall
theorem sumR_swap {f : Int → Int → Int} {i' : Int} {m : Nat} : ∀ {n : Nat} {i : Int}, sumR (fun a => sumR (fun b => f a b) i' m) i n = sumR (fun b => sumR (fun a => f a b) i n) i' m
  | 0, i => (sumR_0 (fun _ _ _ => rfl)).symm
  | n + 1, i => by
    show sumR (fun b => f i b) i' m + sumR (fun a => sumR (fun b => f a b) i' m) (i + 1) n = sumR (fun b => f i b + sumR (fun a => f a b) (i + 1) n) i' m
    rw [sumR_swap, ← sumR_add]
theorem sumR_inj {R P : Int → Bool} {m : Int → Int} {l l' : Int} {N N' : Nat} (hm : ∀ a, l ≤ a → a < l + N → R a = true → (l' ≤ m a ∧ m a < l' + N') ∧ P (m a) = true) (inj : ∀ a b, l ≤ a → a < l + N → l ≤ b → b < l + N → R a = true → R b = true → m a = m b → a = b) :
    sumR (fun a => if R a = true then 1 else 0) l N ≤ sumR (fun q => if P q = true then (1 : Int) else 0) l' N' := by
  have e1 : sumR (fun a => if R a = true then 1 else 0) l N = sumR (fun a => sumR (fun q => if R a = true ∧ m a = q then 1 else 0) l' N') l N := by
    refine sumR_congr (fun a h1 h2 => ?_)
    show (if R a = true then (1 : Int) else 0) = sumR (fun q => if R a = true ∧ m a = q then 1 else 0) l' N'
    by_cases c : R a = true
    · have q := hm a h1 h2 c
      rw [if_pos c, sumR_one q.1.1 q.1.2, if_pos ⟨c, rfl⟩, sumR_0 (fun j _ _ => by
        show (if j = m a then 0 else if R a = true ∧ m a = j then (1 : Int) else 0) = 0
        by_cases d : j = m a
        · rw [if_pos d]
        · rw [if_neg d, if_neg (fun e => d e.2.symm)])]
      rfl
    · rw [if_neg c, sumR_0 (fun j _ _ => by
        show (if R a = true ∧ m a = j then (1 : Int) else 0) = 0
        rw [if_neg (fun e => c e.1)])]
  rw [e1, sumR_swap]
  refine sumR_mono (fun q h1 h2 => ?_)
  show sumR (fun a => if R a = true ∧ m a = q then (1 : Int) else 0) l N ≤ (if P q = true then 1 else 0)
  by_cases c : ∃ a, l ≤ a ∧ a < l + N ∧ R a = true ∧ m a = q
  · obtain ⟨a, a1, a2, a3, a4⟩ := c
    have pq : P q = true := by rw [← a4]; exact (hm a a1 a2 a3).2
    rw [if_pos pq, sumR_one a1 a2, if_pos ⟨a3, a4⟩, sumR_0 (fun j j1 j2 => by
      show (if j = a then 0 else if R j = true ∧ m j = q then (1 : Int) else 0) = 0
      by_cases d : j = a
      · rw [if_pos d]
      · rw [if_neg d, if_neg (fun e => d (inj j a j1 j2 a1 a2 e.1 a3 (e.2.trans a4.symm)))])]
    exact Int.le_refl _
  · rw [sumR_0 (fun j j1 j2 => by
      show (if R j = true ∧ m j = q then (1 : Int) else 0) = 0
      rw [if_neg (fun e => c ⟨j, j1, j2, e.1, e.2⟩)])]
    split <;> decide
def Mtc (adj : Int → Int → Bool) (N pg : Int) (M : Int → Bool) (m : Int → Int) : Prop := (∀ a, 0 ≤ a → a < N → M a = true → (1 ≤ m a ∧ m a ≤ pg) ∧ adj a (m a) = true) ∧ ∀ a b, 0 ≤ a → a < N → 0 ≤ b → b < N → M a = true → M b = true → m a = m b → a = b
theorem no_match {adj : Int → Int → Bool} {N pg : Int} {M R P : Int → Bool} {m pt : Int → Int} {a0 : Int} (hN : 0 ≤ N) (hpg : 0 ≤ pg) (h0 : 0 ≤ a0 ∧ a0 < N) (r0 : R a0 = true) (hR : ∀ a, 0 ≤ a → a < N → R a = true → M a = true) (hP : ∀ a q, 0 ≤ a → a < N → R a = true → 1 ≤ q → q ≤ pg → adj a q = true → P q = true)
    (hp : ∀ q, 1 ≤ q → q ≤ pg → P q = true → (0 ≤ pt q ∧ pt q < N) ∧ R (pt q) = true ∧ pt q ≠ a0) (hi : ∀ q q', 1 ≤ q → q ≤ pg → 1 ≤ q' → q' ≤ pg → P q = true → P q' = true → pt q = pt q' → q = q') : ¬ Mtc adj N pg M m := by
  intro ⟨k1, k2⟩
  have q1 := sumR_inj (R := R) (P := P) (m := m) (l := 0) (l' := 1) (N := N.toNat) (N' := pg.toNat) (fun a h1 h2 h3 => by
    have q := k1 a h1 (by omega) (hR a h1 (by omega) h3)
    exact ⟨⟨q.1.1, by omega⟩, hP a (m a) h1 (by omega) h3 q.1.1 q.1.2 q.2⟩) (fun a b a1 a2 b1 b2 ra rb e => k2 a b a1 (by omega) b1 (by omega) (hR a a1 (by omega) ra) (hR b b1 (by omega) rb) e)
  have q2 := sumR_inj (R := P) (P := fun a => R a && decide (a ≠ a0)) (m := pt) (l := 1) (l' := 0) (N := pg.toNat) (N' := N.toNat) (fun q h1 h2 h3 => by
    have z := hp q h1 (by omega) h3
    exact ⟨⟨z.1.1, by omega⟩, by rw [Bool.and_eq_true, decide_eq_true_eq]; exact ⟨z.2.1, z.2.2⟩⟩) (fun a b a1 a2 b1 b2 ra rb e => hi a b a1 (by omega) b1 (by omega) ra rb e)
  have q3 := sumR_strict (w := fun a => if (R a && decide (a ≠ a0)) = true then (1 : Int) else 0) (w' := fun a => if R a = true then (1 : Int) else 0) (x := a0) (n := N.toNat) (i := 0) (fun j _ _ => by
    show (if (R j && decide (j ≠ a0)) = true then (1 : Int) else 0) ≤ (if R j = true then (1 : Int) else 0)
    cases R j
    · rw [Bool.false_and]; exact Int.le_refl _
    · rw [if_pos rfl]; split <;> decide) h0.1 (by omega) (by
    show (if (R a0 && decide (a0 ≠ a0)) = true then (1 : Int) else 0) + 1 ≤ (if R a0 = true then (1 : Int) else 0)
    rw [decide_eq_false (fun e => e rfl), Bool.and_false, r0]
    decide)
  omega
end Hall

