/-! THE kTH BY A KEY -/
section Kth
theorem sumR_mono {w w' : Int → Int} : ∀ {n : Nat} {i : Int}, (∀ j, i ≤ j → j < i + n → w j ≤ w' j) → sumR w i n ≤ sumR w' i n
  | 0, _, _ => Int.le_refl _
  | n + 1, i, h => by
    show w i + sumR w (i + 1) n ≤ w' i + sumR w' (i + 1) n
    have q1 := h i (by omega) (by omega)
    have q2 := sumR_mono (n := n) (i := i + 1) (w := w) (w' := w') (fun j h1 h2 => h j (by omega) (by omega))
    omega
theorem sumR_strict {w w' : Int → Int} {x : Int} : ∀ {n : Nat} {i : Int}, (∀ j, i ≤ j → j < i + n → w j ≤ w' j) → i ≤ x → x < i + n → w x + 1 ≤ w' x → sumR w i n + 1 ≤ sumR w' i n
  | 0, i, _, h1, h2, _ => by omega
  | n + 1, i, h, h1, h2, h3 => by
    show w i + sumR w (i + 1) n + 1 ≤ w' i + sumR w' (i + 1) n
    by_cases c : x = i
    · subst c
      have q2 := sumR_mono (n := n) (i := x + 1) (w := w) (w' := w') (fun j h1 h2 => h j (by omega) (by omega))
      omega
    · have q1 := h i (by omega) (by omega)
      have q2 := sumR_strict (n := n) (i := i + 1) (w := w) (w' := w') (x := x) (fun j h1 h2 => h j (by omega) (by omega)) (by omega) (by omega) h3
      omega
theorem sumR_app {w : Int → Int} : ∀ {m n : Nat} {i : Int}, sumR w i (m + n) = sumR w i m + sumR w (i + m) n
  | 0, n, i => by
    rw [Nat.zero_add, show i + ((0 : Nat) : Int) = i by omega]
    show _ = 0 + _
    omega
  | m + 1, n, i => by
    rw [show m + 1 + n = (m + n) + 1 by omega]
    show w i + sumR w (i + 1) (m + n) = w i + sumR w (i + 1) m + sumR w (i + ((m + 1 : Nat) : Int)) n
    rw [sumR_app, show i + 1 + (m : Int) = i + ((m + 1 : Nat) : Int) by omega]
    omega
variable (p : Int → Bool) (k : Int → Int) (l : Int) (N : Nat)
def ctK (c : Int) : Int := sumR (fun y => if p y = true ∧ k y < c then 1 else 0) l N
variable {p k l N}
theorem ctK_nn {c : Int} : 0 ≤ ctK p k l N c := by
  have q := sumR_bd (w := fun y => if p y = true ∧ k y < c then 1 else 0) (l := 0) (h := 1) (n := N) (i := l) (fun j _ _ => by
    show 0 ≤ (if p j = true ∧ k j < c then (1 : Int) else 0) ∧ (if p j = true ∧ k j < c then (1 : Int) else 0) ≤ 1
    split <;> omega)
  unfold ctK
  omega
theorem ctK_mono {c d : Int} (h : c ≤ d) : ctK p k l N c ≤ ctK p k l N d := by
  refine sumR_mono (fun j _ _ => ?_)
  show (if p j = true ∧ k j < c then (1 : Int) else 0) ≤ (if p j = true ∧ k j < d then (1 : Int) else 0)
  by_cases c1 : p j = true ∧ k j < c
  · rw [if_pos c1, if_pos ⟨c1.1, by omega⟩]; exact Int.le_refl _
  · rw [if_neg c1]; split <;> omega
theorem ctK_lt {x d : Int} (h1 : l ≤ x) (h2 : x < l + N) (hp : p x = true) (hk : k x < d) : ctK p k l N (k x) + 1 ≤ ctK p k l N d := by
  refine sumR_strict (x := x) (fun j _ _ => ?_) h1 h2 ?_
  · show (if p j = true ∧ k j < k x then (1 : Int) else 0) ≤ (if p j = true ∧ k j < d then (1 : Int) else 0)
    by_cases c1 : p j = true ∧ k j < k x
    · rw [if_pos c1, if_pos ⟨c1.1, by omega⟩]; exact Int.le_refl _
    · rw [if_neg c1]; split <;> omega
  · show (if p x = true ∧ k x < k x then (1 : Int) else 0) + 1 ≤ (if p x = true ∧ k x < d then (1 : Int) else 0)
    rw [if_neg (fun q => Int.lt_irrefl _ q.2), if_pos ⟨hp, hk⟩]
    exact Int.le_refl _
theorem ctK_inj (inj : ∀ x y, l ≤ x → x < l + N → l ≤ y → y < l + N → p x = true → p y = true → k x = k y → x = y) {x y : Int} (hx : l ≤ x ∧ x < l + N) (hy : l ≤ y ∧ y < l + N) (px : p x = true) (py : p y = true) (e : ctK p k l N (k x) = ctK p k l N (k y)) : x = y := by
  by_cases c : k x = k y
  · exact inj x y hx.1 hx.2 hy.1 hy.2 px py c
  · by_cases d : k x < k y
    · have q := ctK_lt hx.1 hx.2 px d
      omega
    · have q := ctK_lt (p := p) (k := k) (l := l) (N := N) hy.1 hy.2 py (d := k x) (by omega)
      omega
theorem ctK_one (inj : ∀ x y, l ≤ x → x < l + N → l ≤ y → y < l + N → p x = true → p y = true → k x = k y → x = y) {x : Int} (hx : l ≤ x ∧ x < l + N) (px : p x = true) : ctK p k l N (k x + 1) = ctK p k l N (k x) + 1 := by
  have e : ctK p k l N (k x + 1) = sumR (fun y => (if p y = true ∧ k y < k x then 1 else 0) + (if y = x then 1 else 0)) l N := by
    refine sumR_congr (fun y h1 h2 => ?_)
    show (if p y = true ∧ k y < k x + 1 then (1 : Int) else 0) = (if p y = true ∧ k y < k x then (1 : Int) else 0) + (if y = x then (1 : Int) else 0)
    by_cases c : y = x
    · subst c
      rw [if_pos ⟨px, by omega⟩, if_neg (fun q => Int.lt_irrefl _ q.2), if_pos rfl]; rfl
    · rw [if_neg c]
      by_cases d : p y = true ∧ k y < k x
      · rw [if_pos d, if_pos ⟨d.1, by omega⟩]; rfl
      · rw [if_neg d, if_neg (fun q => d ⟨q.1, by
          have h3 : k y ≠ k x := fun e => c (inj y x h1 h2 hx.1 hx.2 q.1 px e)
          have := q.2
          omega⟩)]; rfl
  rw [e, sumR_add]
  have e2 : sumR (fun y => if y = x then (1 : Int) else 0) l N = 1 := by
    rw [sumR_one hx.1 hx.2, if_pos rfl, sumR_0 (fun j _ _ => by by_cases c : j = x <;> simp [c])]; rfl
  rw [e2]; rfl
theorem ctK_gap {c d : Int} (h : ∀ y, l ≤ y → y < l + N → p y = true → (k y < c ↔ k y < d)) : ctK p k l N c = ctK p k l N d := by
  refine sumR_congr (fun y h1 h2 => ?_)
  show (if p y = true ∧ k y < c then (1 : Int) else 0) = (if p y = true ∧ k y < d then (1 : Int) else 0)
  by_cases e : p y = true
  · have q := h y h1 h2 e
    by_cases c1 : k y < c
    · rw [if_pos ⟨e, c1⟩, if_pos ⟨e, q.mp c1⟩]
    · rw [if_neg (fun z => c1 z.2), if_neg (fun z => c1 (q.mpr z.2))]
  · rw [if_neg (fun z => e z.1), if_neg (fun z => e z.1)]
def mnF (p : Int → Bool) (k : Int → Int) (c x s : Int) : Int := if p x = true then (if k x ≤ c then s else if s = -1 then k x else if s ≤ k x then s else k x) else s
theorem mnF_spec {c : Int} (hk : ∀ x, l ≤ x → x < l + N → p x = true → 0 ≤ k x) : ∀ m : Nat, m ≤ N →
    (itR (mnF p k c) l m (-1) = -1 ∧ ∀ y, l ≤ y → y < l + m → p y = true → k y ≤ c) ∨
    (∃ x, l ≤ x ∧ x < l + m ∧ p x = true ∧ k x = itR (mnF p k c) l m (-1) ∧ c < k x ∧ ∀ y, l ≤ y → y < l + m → p y = true → k y ≤ c ∨ k x ≤ k y) := by
  intro m hm
  have q := itR_inv (f := mnF p k c) (n := m) (i := l) (s := -1) (I := fun j s => (s = -1 ∧ ∀ y, l ≤ y → y < j → p y = true → k y ≤ c) ∨ (∃ x, l ≤ x ∧ x < j ∧ p x = true ∧ k x = s ∧ c < k x ∧ ∀ y, l ≤ y → y < j → p y = true → k y ≤ c ∨ k x ≤ k y))
    (fun j s h1 h2 hI => by
      show (mnF p k c j s = -1 ∧ _) ∨ _
      unfold mnF
      by_cases e : p j = true
      · have k0 := hk j h1 (by omega) e
        rw [if_pos e]
        by_cases d : k j ≤ c
        · rw [if_pos d]
          rcases hI with ⟨a1, a2⟩ | ⟨x, a1, a2, a3, a4, a5, a6⟩
          · exact .inl ⟨a1, fun y b1 b2 b3 => by
              by_cases z : y = j
              · rw [z]; exact d
              · exact a2 y b1 (by omega) b3⟩
          · exact .inr ⟨x, a1, by omega, a3, a4, a5, fun y b1 b2 b3 => by
              by_cases z : y = j
              · rw [z]; exact .inl d
              · exact a6 y b1 (by omega) b3⟩
        · rw [if_neg d]
          rcases hI with ⟨a1, a2⟩ | ⟨x, a1, a2, a3, a4, a5, a6⟩
          · rw [if_pos a1]
            exact .inr ⟨j, h1, by omega, e, rfl, by omega, fun y b1 b2 b3 => by
              by_cases z : y = j
              · rw [z]; exact .inr (Int.le_refl _)
              · exact .inl (a2 y b1 (by omega) b3)⟩
          · have k1 := hk x a1 (by omega) a3
            rw [if_neg (by omega : ¬ s = -1)]
            by_cases f : s ≤ k j
            · rw [if_pos f]
              exact .inr ⟨x, a1, by omega, a3, a4, a5, fun y b1 b2 b3 => by
                by_cases z : y = j
                · rw [z]; exact .inr (by omega)
                · exact a6 y b1 (by omega) b3⟩
            · rw [if_neg f]
              exact .inr ⟨j, h1, by omega, e, rfl, by omega, fun y b1 b2 b3 => by
                by_cases z : y = j
                · rw [z]; exact .inr (Int.le_refl _)
                · have := a6 y b1 (by omega) b3
                  omega⟩
      · rw [if_neg e]
        rcases hI with ⟨a1, a2⟩ | ⟨x, a1, a2, a3, a4, a5, a6⟩
        · exact .inl ⟨a1, fun y b1 b2 b3 => by
            by_cases z : y = j
            · exact absurd (z ▸ b3) e
            · exact a2 y b1 (by omega) b3⟩
        · exact .inr ⟨x, a1, by omega, a3, a4, a5, fun y b1 b2 b3 => by
            by_cases z : y = j
            · exact absurd (z ▸ b3) e
            · exact a6 y b1 (by omega) b3⟩)
    (.inl ⟨rfl, fun y b1 b2 b3 => by omega⟩)
  exact q
theorem lp_kth {body : (Int × Int → Option (Int ⊕ Int)) → Int × Int → Option (Int ⊕ Int)} {K : Int} (hk : ∀ x, l ≤ x → x < l + N → p x = true → 0 ≤ k x)
    (inj : ∀ x y, l ≤ x → x < l + N → l ≤ y → y < l + N → p x = true → p y = true → k x = k y → x = y)
    (hx : ∀ go c i, K < i → body go (c, i) = some (.inr c))
    (hs : ∀ go c i, (c = -1 ∨ ∃ x, l ≤ x ∧ x < l + N ∧ p x = true ∧ c = k x) → 0 ≤ i → i ≤ K → body go (c, i) = if itR (mnF p k c) l N (-1) = -1 then some (.inl (-1)) else go (itR (mnF p k c) l N (-1), i + 1)) :
    ∀ (m n : Nat) (i c : Int), (K + 1 - i).toNat = m → m < n → 0 ≤ i → i ≤ K + 1 → (i = 0 ∧ c = -1 ∨ ∃ x, l ≤ x ∧ x < l + N ∧ p x = true ∧ c = k x ∧ ctK p k l N (k x) = i - 1) →
      0 ≤ K → (lp body n (c, i) = some (.inl (-1)) ∧ ∀ d, ctK p k l N d ≤ K) ∨ (∃ x, l ≤ x ∧ x < l + N ∧ p x = true ∧ ctK p k l N (k x) = K ∧ lp body n (c, i) = some (.inr (k x)))
  | 0, n + 1, i, c, hm, _, h0, h1, hI, hK => by
    refine .inr ?_
    rcases hI with ⟨e, -⟩ | ⟨x, a1, a2, a3, a4, a5⟩
    · omega
    · exact ⟨x, a1, a2, a3, by omega, by rw [lp_succ, hx _ _ _ (by omega), a4]⟩
  | m + 1, n + 1, i, c, hm, hn, h0, h1, hI, hK => by
    rw [lp_succ, hs _ c i (hI.imp (fun q => q.2) (fun ⟨x, a1, a2, a3, a4, _⟩ => ⟨x, a1, a2, a3, a4⟩)) h0 (by omega)]
    have base : ctK p k l N (c + 1) = i := by
      rcases hI with ⟨e, e2⟩ | ⟨x, a1, a2, a3, a4, a5⟩
      · subst e2
        rw [e]
        refine sumR_0 (fun j b1 b2 => ?_)
        show (if p j = true ∧ k j < -1 + 1 then (1 : Int) else 0) = 0
        rw [if_neg (fun q => by have := hk j b1 b2 q.1; have := q.2; omega)]
      · rw [a4, ctK_one inj ⟨a1, a2⟩ a3, a5]; omega
    rcases mnF_spec (p := p) (k := k) (l := l) (N := N) (c := c) hk N (Nat.le_refl _) with ⟨e, f⟩ | ⟨x, a1, a2, a3, a4, a5, a6⟩
    · rw [if_pos e]
      refine .inl ⟨rfl, fun d => ?_⟩
      have q : ctK p k l N d ≤ ctK p k l N (c + 1) := by
        refine sumR_mono (fun j b1 b2 => ?_)
        show (if p j = true ∧ k j < d then (1 : Int) else 0) ≤ (if p j = true ∧ k j < c + 1 then (1 : Int) else 0)
        by_cases z : p j = true
        · have := f j b1 b2 z
          rw [if_pos (c := p j = true ∧ k j < c + 1) ⟨z, by omega⟩]
          split <;> omega
        · rw [if_neg (fun q => z q.1), if_neg (fun q => z q.1)]; exact Int.le_refl _
      omega
    · have k0 := hk x a1 a2 a3
      rw [← a4, if_neg (by omega : ¬ k x = -1)]
      have e : ctK p k l N (k x) = i := by
        rw [← base]
        exact ctK_gap (fun y b1 b2 b3 => by have := a6 y b1 b2 b3; omega)
      clear hI
      have f1 : (K + 1 - (i + 1)).toNat = m := by omega
      have f2 : ctK p k l N (k x) = i + 1 - 1 := by rw [e]; omega
      have f3 : m < n := by omega
      have f4 : 0 ≤ i + 1 := by omega
      have f5 : i + 1 ≤ K + 1 := by omega
      exact lp_kth hk inj hx hs m n (i + 1) (k x) f1 f3 f4 f5 (.inr ⟨x, a1, a2, a3, rfl, f2⟩) hK
end Kth

