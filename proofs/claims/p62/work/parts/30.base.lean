/-! STAGE 2: what the functions compute, over integers alone -/
theorem bnO_s {α β : Type} {a : α} {k : α → Option β} : bnO (some a) k = k a := rfl
theorem bnS_l {α β γ : Type} {a : α} {k1 : α → Option γ} {k2 : β → Option γ} : bnS (some (.inl a)) k1 k2 = k1 a := rfl
theorem bnS_r {α β γ : Type} {b : β} {k1 : α → Option γ} {k2 : β → Option γ} : bnS (some (.inr b)) k1 k2 = k2 b := rfl
theorem nm_x {α β : Type} {a : α} {k : α → β} : nm a k = k a := rfl
theorem wr_add {a b : Int} : wr (wr a + b) = wr (a + b) := by unfold wr; rw [Int32.ofInt_add, Int32.ofInt_toInt, ← Int32.ofInt_add]
theorem wr_add' {a b : Int} : wr (a + wr b) = wr (a + b) := by rw [Int.add_comm, wr_add, Int.add_comm]
theorem wr_mul {a b : Int} : wr (a * wr b) = wr (a * b) := by unfold wr; rw [Int32.ofInt_mul, Int32.ofInt_toInt, ← Int32.ofInt_mul]
theorem wr_wr {a : Int} : wr (wr a) = wr a := wr_id (wr_in a)
theorem wr_s {z : Int} (h1 : -2147483648 ≤ z) (h2 : z < 2147483648) : wr z = z := wr_id ⟨h1, h2⟩
theorem g_w {S : St} {a f a' f' : Nat} {z : Int} : g (u S a f z) a' f' = if a' = a ∧ f' = f then wr z else g S a' f' := by
  unfold g u
  by_cases q : a' = a ∧ f' = f
  · obtain ⟨rfl, rfl⟩ := q
    rw [uI_at, if_pos ⟨rfl, rfl⟩]; rfl
  · rw [uI_ne q, if_neg q]
theorem gl_u {S : St} {a f a' f' : Nat} {z : Int} : gl (u S a f z) a' f' = gl S a' f' := rfl
theorem g_ul {S : St} {a f a' f' : Nat} {z : Int} : g (ul S a f z) a' f' = g S a' f' := rfl
theorem gl_w {S : St} {a f a' f' : Nat} {z : Int} : gl (ul S a f z) a' f' = if a' = a ∧ f' = f then wl z else gl S a' f' := by
  unfold gl ul
  by_cases q : a' = a ∧ f' = f
  · obtain ⟨rfl, rfl⟩ := q
    rw [uL_at, if_pos ⟨rfl, rfl⟩]; rfl
  · rw [uL_ne q, if_neg q]
theorem g_cp {S : St} {a b n a' f' : Nat} : g (cpI S a b n) a' f' = if a' = b ∧ f' < n then g S a f' else g S a' f' := by
  unfold g cpI
  by_cases q : a' = b ∧ f' < n
  · rw [if_pos q]; show ((if a' = b ∧ f' < n then S.1 a f' else S.1 a' f') : Int32).toInt = _; rw [if_pos q]
  · rw [if_neg q]; show ((if a' = b ∧ f' < n then S.1 a f' else S.1 a' f') : Int32).toInt = _; rw [if_neg q]
theorem gl_cp {S : St} {a b n a' f' : Nat} : gl (cpI S a b n) a' f' = gl S a' f' := rfl
theorem td_n {a b : Int} (h : 0 ≤ a) : a.tdiv b = a / b := Int.tdiv_eq_ediv_of_nonneg h
theorem tm_n {a b : Int} (h : 0 ≤ a) : a.tmod b = a % b := Int.tmod_eq_emod_of_nonneg h
/-! RANGES: n numbers from i on -/
def sumR (w : Int → Int) : Int → Nat → Int
  | _, 0 => 0
  | i, n + 1 => w i + sumR w (i + 1) n
def anyR (p : Int → Bool) : Int → Nat → Bool
  | _, 0 => false
  | i, n + 1 => p i || anyR p (i + 1) n
def fstR (p : Int → Bool) : Int → Nat → Int
  | _, 0 => -1
  | i, n + 1 => if p i = true then i else fstR p (i + 1) n
def itR {σ : Type} (f : Int → σ → σ) : Int → Nat → σ → σ
  | _, 0, s => s
  | i, n + 1, s => itR f (i + 1) n (f i s)
def runR {σ β : Type} (f : Int → σ → σ) (stop : Int → σ → Option β) (out : σ → β) : Int → Nat → σ → β
  | _, 0, s => out s
  | i, n + 1, s => (stop i s).getD (runR f stop out (i + 1) n (f i s))
theorem sumR_congr {w w' : Int → Int} : ∀ {n : Nat} {i : Int}, (∀ j, i ≤ j → j < i + n → w j = w' j) → sumR w i n = sumR w' i n
  | 0, _, _ => rfl
  | n + 1, i, h => by
    show w i + _ = w' i + _
    rw [h i (by omega) (by omega), sumR_congr (n := n) (fun j h1 h2 => h j (by omega) (by omega))]
theorem anyR_congr {w w' : Int → Bool} : ∀ {n : Nat} {i : Int}, (∀ j, i ≤ j → j < i + n → w j = w' j) → anyR w i n = anyR w' i n
  | 0, _, _ => rfl
  | n + 1, i, h => by
    show (w i || _) = (w' i || _)
    rw [h i (by omega) (by omega), anyR_congr (n := n) (fun j h1 h2 => h j (by omega) (by omega))]
theorem fstR_congr {w w' : Int → Bool} : ∀ {n : Nat} {i : Int}, (∀ j, i ≤ j → j < i + n → w j = w' j) → fstR w i n = fstR w' i n
  | 0, _, _ => rfl
  | n + 1, i, h => by
    show (if w i = true then i else _) = (if w' i = true then i else _)
    rw [h i (by omega) (by omega), fstR_congr (n := n) (fun j h1 h2 => h j (by omega) (by omega))]
theorem itR_congr {σ : Type} {f f' : Int → σ → σ} : ∀ {n : Nat} {i : Int} {s : σ}, (∀ j s, i ≤ j → j < i + n → f j s = f' j s) → itR f i n s = itR f' i n s
  | 0, _, _, _ => rfl
  | n + 1, i, s, h => by
    show itR f (i + 1) n (f i s) = itR f' (i + 1) n (f' i s)
    rw [h i s (by omega) (by omega), itR_congr (n := n) (fun j s h1 h2 => h j s (by omega) (by omega))]
theorem itR_inv {σ : Type} {f : Int → σ → σ} {I : Int → σ → Prop} : ∀ {n : Nat} {i : Int} {s : σ}, (∀ j s, i ≤ j → j < i + n → I j s → I (j + 1) (f j s)) → I i s → I (i + n) (itR f i n s)
  | 0, i, s, _, h => by rw [show i + ((0 : Nat) : Int) = i by omega]; exact h
  | n + 1, i, s, hs, h => by
    have q := itR_inv (n := n) (i := i + 1) (s := f i s) (I := I) (fun j s h1 h2 => hs j s (by omega) (by omega)) (hs i s (by omega) (by omega) h)
    rw [show i + ((n + 1 : Nat) : Int) = i + 1 + (n : Int) by omega]
    exact q
theorem anyR_iff {p : Int → Bool} : ∀ {n : Nat} {i : Int}, anyR p i n = true ↔ ∃ j, i ≤ j ∧ j < i + n ∧ p j = true
  | 0, i => by
    constructor
    · intro h; cases h
    · rintro ⟨j, h1, h2, -⟩; omega
  | n + 1, i => by
    show (p i || anyR p (i + 1) n) = true ↔ _
    rw [Bool.or_eq_true, anyR_iff (n := n)]
    constructor
    · rintro (h | ⟨j, h1, h2, h3⟩)
      · exact ⟨i, by omega, by omega, h⟩
      · exact ⟨j, by omega, by omega, h3⟩
    · rintro ⟨j, h1, h2, h3⟩
      by_cases hj : j = i
      · subst hj; exact .inl h3
      · exact .inr ⟨j, by omega, by omega, h3⟩
theorem fstR_spec {p : Int → Bool} : ∀ {n : Nat} {i : Int}, 0 ≤ i → (fstR p i n = -1 ∧ ∀ j, i ≤ j → j < i + n → p j = false) ∨ (i ≤ fstR p i n ∧ fstR p i n < i + n ∧ p (fstR p i n) = true ∧ ∀ j, i ≤ j → j < fstR p i n → p j = false)
  | 0, i, _ => .inl ⟨rfl, fun j h1 h2 => by omega⟩
  | n + 1, i, h0 => by
    have e : fstR p i (n + 1) = if p i = true then i else fstR p (i + 1) n := rfl
    by_cases hp : p i = true
    · rw [e, if_pos hp]
      exact .inr ⟨by omega, by omega, hp, fun j h1 h2 => by omega⟩
    · rw [e, if_neg hp]
      rcases fstR_spec (p := p) (n := n) (i := i + 1) (by omega) with ⟨h1, h2⟩ | ⟨h1, h2, h3, h4⟩
      · refine .inl ⟨h1, fun j h3 h4 => ?_⟩
        by_cases hj : j = i
        · subst hj; exact Bool.eq_false_iff.mpr hp
        · exact h2 j (by omega) (by omega)
      · refine .inr ⟨by omega, by omega, h3, fun j h5 h6 => ?_⟩
        by_cases hj : j = i
        · subst hj; exact Bool.eq_false_iff.mpr hp
        · exact h4 j (by omega) (by omega)
theorem fstR_any {p : Int → Bool} {n : Nat} {i : Int} (h0 : 0 ≤ i) : (fstR p i n = -1) ↔ anyR p i n = false := by
  rcases fstR_spec (p := p) (n := n) h0 with ⟨h1, h2⟩ | ⟨h1, h2, h3, h4⟩
  · rw [h1]
    constructor
    · intro _
      apply Bool.eq_false_iff.mpr
      intro h
      obtain ⟨j, a, b, c⟩ := anyR_iff.mp h
      rw [h2 j a b] at c; cases c
    · intro _; rfl
  · constructor
    · intro h; omega
    · intro h
      have := anyR_iff.mpr ⟨_, h1, h2, h3⟩
      rw [h] at this; cases this
/-! LOOPS that count upward -/
theorem lp_it {α β σ : Type} {body : (α → Option β) → α → Option β} (mk : Int → σ → α) (f : Int → σ → σ) (out : σ → β) (I : Int → σ → Prop) (B : Int)
    (hx : ∀ go i s, I i s → B ≤ i → body go (mk i s) = some (out s)) (hs : ∀ go i s, I i s → i < B → body go (mk i s) = go (mk (i + 1) (f i s)) ∧ I (i + 1) (f i s)) :
    ∀ (m n : Nat) (i : Int) (s : σ), I i s → (B - i).toNat = m → m < n → lp body n (mk i s) = some (out (itR f i m s))
  | 0, n + 1, i, s, hI, hm, _ => hx _ i s hI (by omega)
  | m + 1, n + 1, i, s, hI, hm, hn => by
    rw [lp_succ, (hs _ i s hI (by omega)).1]
    exact lp_it mk f out I B hx hs m n (i + 1) (f i s) (hs (lp body n) i s hI (by omega)).2 (by omega) (by omega)
theorem lp_run {α β σ : Type} {body : (α → Option β) → α → Option β} (mk : Int → σ → α) (f : Int → σ → σ) (stop : Int → σ → Option β) (out : σ → β) (I : Int → σ → Prop) (B : Int)
    (hx : ∀ go i s, I i s → B ≤ i → body go (mk i s) = some (out s)) (hs : ∀ go i s, I i s → i < B → body go (mk i s) = (match stop i s with | some b => some b | none => go (mk (i + 1) (f i s))) ∧ (stop i s = none → I (i + 1) (f i s))) :
    ∀ (m n : Nat) (i : Int) (s : σ), I i s → (B - i).toNat = m → m < n → lp body n (mk i s) = some (runR f stop out i m s)
  | 0, n + 1, i, s, hI, hm, _ => hx _ i s hI (by omega)
  | m + 1, n + 1, i, s, hI, hm, hn => by
    have h := hs (lp body n) i s hI (by omega)
    rw [lp_succ, h.1]
    show _ = some ((stop i s).getD _)
    cases e : stop i s with
    | some b => rfl
    | none => exact lp_run mk f stop out I B hx hs m n (i + 1) (f i s) (h.2 e) (by omega) (by omega)
theorem it_sum {w : Int → Int} : ∀ {n : Nat} {i a : Int}, inR a → itR (fun i a => wr (a + w i)) i n a = wr (a + sumR w i n)
  | 0, i, a, h => by show a = wr (a + 0); rw [Int.add_zero, wr_id h]
  | n + 1, i, a, h => by
    show itR _ (i + 1) n (wr (a + w i)) = wr (a + (w i + sumR w (i + 1) n))
    rw [it_sum (wr_in _), wr_add]
    congr 1; omega
theorem lp_sum {body : (Int × Int → Option Int) → Int × Int → Option Int} (w : Int → Int) (lo B : Int)
    (hx : ∀ go a i, B ≤ i → body go (a, i) = some a) (hs : ∀ go a i, inR a → lo ≤ i → i < B → body go (a, i) = go (wr (a + w i), i + 1)) {n : Nat} {a : Int} (ha : inR a) (hn : (B - lo).toNat < n) : lp body n (a, lo) = some (wr (a + sumR w lo (B - lo).toNat)) := by
  have q := lp_it (body := body) (fun i s => (s, i)) (fun i a => wr (a + w i)) id (fun i a => inR a ∧ lo ≤ i) B (fun go i s _ h => hx go s i h) (fun go i s h1 h2 => ⟨hs go s i h1.1 h1.2 h2, wr_in _, by have := h1.2; omega⟩) (B - lo).toNat n lo a ⟨ha, Int.le_refl _⟩ rfl hn
  rw [it_sum ha] at q
  exact q
theorem lp_fst {β : Type} {body : (Int → Option (β ⊕ Unit)) → Int → Option (β ⊕ Unit)} (p : Int → Bool) (r : Int → β) (lo B : Int)
    (hx : ∀ go i, B ≤ i → body go i = some (.inr ())) (hs : ∀ go i, lo ≤ i → i < B → body go i = if p i = true then some (.inl (r i)) else go (i + 1)) {n : Nat} (h0 : 0 ≤ lo) (hn : (B - lo).toNat < n) :
    lp body n lo = if fstR p lo (B - lo).toNat = -1 then some (.inr ()) else some (.inl (r (fstR p lo (B - lo).toNat))) := by
  have q : ∀ (m n : Nat) (i : Int), lo ≤ i → (B - i).toNat = m → m < n → lp body n i = if fstR p i m = -1 then some (.inr ()) else some (.inl (r (fstR p i m))) := by
    intro m
    induction m with
    | zero =>
      intro n i h1 h2 h3
      cases n with
      | zero => omega
      | succ n => rw [lp_succ, hx _ i (by omega)]; rfl
    | succ m ih =>
      intro n i h1 h2 h3
      cases n with
      | zero => omega
      | succ n =>
        rw [lp_succ, hs _ i h1 (by omega)]
        have e : fstR p i (m + 1) = if p i = true then i else fstR p (i + 1) m := rfl
        rw [e]
        by_cases hp : p i = true
        · rw [if_pos hp, if_pos hp, if_neg (by omega)]
        · rw [if_neg hp, if_neg hp, ih n (i + 1) (by omega) (by omega) (by omega)]
  exact q _ n lo (Int.le_refl _) rfl hn
theorem i_or0 {a : Int} (h : a = 0 ∨ a = 1) : i_or a 0 = a := by rcases h with rfl | rfl <;> decide
theorem i_or1 {a : Int} (h : a = 0 ∨ a = 1) : i_or a 1 = 1 := by rcases h with rfl | rfl <;> decide
theorem i_orb {b c : Bool} : i_or (bi b) (bi c) = bi (b || c) := by cases b <;> cases c <;> decide
theorem lp_any {body : (Int × Int → Option Int) → Int × Int → Option Int} (p : Int → Bool) (lo B : Int)
    (hx : ∀ go a i, B ≤ i → body go (a, i) = some a) (hs : ∀ go b i, lo ≤ i → i < B → body go (bi b, i) = go (bi (b || p i), i + 1)) {n : Nat} {b : Bool} (hn : (B - lo).toNat < n) : lp body n (bi b, lo) = some (bi (b || anyR p lo (B - lo).toNat)) := by
  have q := lp_it (body := body) (fun i (s : Bool) => (bi s, i)) (fun i a => a || p i) bi (fun i _ => lo ≤ i) B (fun go i s _ h => hx go _ i h) (fun go i s h1 h2 => ⟨hs go s i h1 h2, by omega⟩) (B - lo).toNat n lo b (Int.le_refl _) rfl hn
  have e : ∀ (n : Nat) (i : Int) (b : Bool), itR (fun i a => a || p i) i n b = (b || anyR p i n) := by
    intro n
    induction n with
    | zero => intro i b; cases b <;> rfl
    | succ n ih => intro i b; show itR _ (i + 1) n (b || p i) = (b || (p i || anyR p (i + 1) n)); rw [ih, Bool.or_assoc]
  rw [e] at q
  exact q
theorem FU_lt {m : Nat} (h : m ≤ 9999) : m < FU := Nat.lt_of_le_of_lt h (Nat.lt_of_lt_of_le (by decide : 9999 < 10000) (Nat.le_of_ble_eq_true rfl))
theorem tg_0_0 : tgt 0 0 = 61 := rfl
theorem tg_0_1 : tgt 0 1 = 1 := rfl
theorem tg_0_2 : tgt 0 2 = 505 := rfl
theorem tg_0_3 : tgt 0 3 = 5 := rfl
theorem tg_0_4 : tgt 0 4 = 63 := rfl
theorem tg_0_5 : tgt 0 5 = 3 := rfl
theorem tg_1_0 : tgt 1 0 = 2 := rfl
theorem tg_3_0 : tgt 3 0 = 4 := rfl
theorem tg_5_0 : tgt 5 0 = 6 := rfl
theorem tg_5_3 : tgt 5 3 = 28 := rfl
theorem tg_5_4 : tgt 5 4 = 29 := rfl
theorem tg_5_5 : tgt 5 5 = 30 := rfl
theorem tg_5_6 : tgt 5 6 = 31 := rfl
theorem tg_5_7 : tgt 5 7 = 32 := rfl
theorem tg_6_0 : tgt 6 0 = 7 := rfl
theorem tg_6_1 : tgt 6 1 = 15 := rfl
theorem tg_6_2 : tgt 6 2 = 21 := rfl
theorem tg_6_3 : tgt 6 3 = 24 := rfl
theorem tg_7_0 : tgt 7 0 = 8 := rfl
theorem tg_7_1 : tgt 7 1 = 9 := rfl
theorem tg_7_2 : tgt 7 2 = 10 := rfl
theorem tg_7_3 : tgt 7 3 = 11 := rfl
theorem tg_7_4 : tgt 7 4 = 12 := rfl
theorem tg_7_5 : tgt 7 5 = 13 := rfl
theorem tg_7_6 : tgt 7 6 = 14 := rfl
theorem tg_15_0 : tgt 15 0 = 16 := rfl
theorem tg_15_1 : tgt 15 1 = 17 := rfl
theorem tg_15_2 : tgt 15 2 = 18 := rfl
theorem tg_15_3 : tgt 15 3 = 19 := rfl
theorem tg_15_4 : tgt 15 4 = 20 := rfl
theorem tg_21_0 : tgt 21 0 = 22 := rfl
theorem tg_21_1 : tgt 21 1 = 23 := rfl
theorem tg_24_0 : tgt 24 0 = 25 := rfl
theorem tg_24_1 : tgt 24 1 = 26 := rfl
theorem tg_24_2 : tgt 24 2 = 27 := rfl
theorem tg_33_0 : tgt 33 0 = 34 := rfl
theorem tg_33_3 : tgt 33 3 = 56 := rfl
theorem tg_33_4 : tgt 33 4 = 57 := rfl
theorem tg_33_5 : tgt 33 5 = 58 := rfl
theorem tg_33_6 : tgt 33 6 = 59 := rfl
theorem tg_33_7 : tgt 33 7 = 60 := rfl
theorem tg_34_0 : tgt 34 0 = 35 := rfl
theorem tg_34_1 : tgt 34 1 = 43 := rfl
theorem tg_34_2 : tgt 34 2 = 49 := rfl
theorem tg_34_3 : tgt 34 3 = 52 := rfl
theorem tg_35_0 : tgt 35 0 = 36 := rfl
theorem tg_35_1 : tgt 35 1 = 37 := rfl
theorem tg_35_2 : tgt 35 2 = 38 := rfl
theorem tg_35_3 : tgt 35 3 = 39 := rfl
theorem tg_35_4 : tgt 35 4 = 40 := rfl
theorem tg_35_5 : tgt 35 5 = 41 := rfl
theorem tg_35_6 : tgt 35 6 = 42 := rfl
theorem tg_43_0 : tgt 43 0 = 44 := rfl
theorem tg_43_1 : tgt 43 1 = 45 := rfl
theorem tg_43_2 : tgt 43 2 = 46 := rfl
theorem tg_43_3 : tgt 43 3 = 47 := rfl
theorem tg_43_4 : tgt 43 4 = 48 := rfl
theorem tg_49_0 : tgt 49 0 = 50 := rfl
theorem tg_49_1 : tgt 49 1 = 51 := rfl
theorem tg_52_0 : tgt 52 0 = 53 := rfl
theorem tg_52_1 : tgt 52 1 = 54 := rfl
theorem tg_52_2 : tgt 52 2 = 55 := rfl
theorem tg_61_0 : tgt 61 0 = 1 := rfl
theorem tg_61_1 : tgt 61 1 = 33 := rfl
theorem tg_61_2 : tgt 61 2 = 62 := rfl
theorem tg_63_0 : tgt 63 0 = 64 := rfl
theorem tg_505_0 : tgt 505 0 = 5 := rfl
theorem tg_505_1 : tgt 505 1 = 6 := rfl
theorem tg_505_2 : tgt 505 2 = 506 := rfl
theorem tg_505_3 : tgt 505 3 = 507 := rfl
theorem tg_505_4 : tgt 505 4 = 508 := rfl
theorem tg_505_5 : tgt 505 5 = 509 := rfl
theorem tg_505_6 : tgt 505 6 = 510 := rfl
theorem tg_505_7 : tgt 505 7 = 511 := rfl
theorem tg_505_8 : tgt 505 8 = 512 := rfl
theorem tg_505_9 : tgt 505 9 = 513 := rfl
/-! VIEWS: the same numbers out of a state of the class and out of a block of the reference.
0 to 6: size, group, color, side, price, ready, page of the ads; 7 to 11: length, color, side, ready, page of the stories; 12, 13: size, page of the standbys; 14 to 16: color, printed, closing (-1: none) of the forms;
17: how many ads, stories, standbys; signatures, pages of each; time, lost -/
abbrev Vw : Type := Nat → Nat → Int
def clo (z : Int) : Int := if z = 0 then -1 else z
def cl6 (z : Int) : Int := if z = 0 then -1 else if z = -1 then 0 else z
def cntV (a0 a1 a2 a3 a4 a5 a6 : Int) : Nat → Int
  | 0 => a0
  | 1 => a1
  | 2 => a2
  | 3 => a3
  | 4 => a4
  | 5 => a5
  | 6 => a6
  | _ => 0
theorem cntV_5 {a0 a1 a2 a3 a4 a5 a6 x : Int} : ∀ i : Nat, cntV a0 a1 a2 a3 a4 x a6 i = if i = 5 then x else cntV a0 a1 a2 a3 a4 a5 a6 i
  | 0 => rfl
  | 1 => rfl
  | 2 => rfl
  | 3 => rfl
  | 4 => rfl
  | 5 => rfl
  | 6 => rfl
  | n + 7 => by rw [if_neg (by omega)]; rfl
theorem cntV_6 {a0 a1 a2 a3 a4 a5 a6 x : Int} : ∀ i : Nat, cntV a0 a1 a2 a3 a4 a5 x i = if i = 6 then x else cntV a0 a1 a2 a3 a4 a5 a6 i
  | 0 => rfl
  | 1 => rfl
  | 2 => rfl
  | 3 => rfl
  | 4 => rfl
  | 5 => rfl
  | 6 => rfl
  | n + 7 => by rw [if_neg (by omega)]; rfl
def vC (S : St) (s : Nat) : Vw := fun k i =>
  if k < 7 then (if (i : Int) < g S (s + 1) 7 then g S (s + 2 + k) i else 0)
  else if k < 12 then (if (i : Int) < g S (s + 9) 5 then g S (s + 3 + k) i else 0)
  else if k < 14 then (if (i : Int) < g S (s + 15) 2 then g S (s + 4 + k) i else 0)
  else if k < 16 then (if (i : Int) < 2 * g S s 4 then g S (s + 5 + k) i else 0)
  else if k = 16 then (if (i : Int) < 2 * g S s 4 then cl6 (g S (s + 5 + k) i) else 0)
  else if 17 < k then 0
  else cntV (g S (s + 1) 7) (g S (s + 9) 5) (g S (s + 15) 2) (g S s 4) (g S s 5) (g S s 6) (g S s 7) i
def at_ (W : Vw) (k : Nat) (i : Int) : Int := W k i.toNat
def nA (W : Vw) : Int := W 17 0
def nS (W : Vw) : Int := W 17 1
def nB (W : Vw) : Int := W 17 2
def sg (W : Vw) : Int := W 17 3
def pe (W : Vw) : Int := W 17 4
def tm (W : Vw) : Int := W 17 5
def lo_ (W : Vw) : Int := W 17 6
def pgs (W : Vw) : Int := sg W * pe W
def Val (W : Vw) : Prop :=
  ((0 ≤ nA W ∧ nA W ≤ 40) ∧ (0 ≤ nS W ∧ nS W ≤ 10) ∧ (0 ≤ nB W ∧ nB W ≤ 8) ∧ (1 ≤ sg W ∧ sg W ≤ 4) ∧ (pe W = 4 ∨ pe W = 8 ∨ pe W = 16) ∧ (0 ≤ tm W ∧ tm W ≤ 9999)) ∧
  (∀ a, 0 ≤ a → a < nA W → (at_ W 0 a = 1 ∨ at_ W 0 a = 2 ∨ at_ W 0 a = 4) ∧ (0 ≤ at_ W 1 a ∧ at_ W 1 a ≤ 9) ∧ (at_ W 2 a = 0 ∨ at_ W 2 a = 1) ∧ (0 ≤ at_ W 3 a ∧ at_ W 3 a ≤ 2) ∧ (1 ≤ at_ W 4 a ∧ at_ W 4 a ≤ 999) ∧ (0 ≤ at_ W 5 a ∧ at_ W 5 a ≤ 9999) ∧ (0 ≤ at_ W 6 a ∧ at_ W 6 a ≤ pgs W)) ∧
  (∀ s, 0 ≤ s → s < nS W → (1 ≤ at_ W 7 s ∧ at_ W 7 s ≤ 8) ∧ (at_ W 8 s = 0 ∨ at_ W 8 s = 1) ∧ (0 ≤ at_ W 9 s ∧ at_ W 9 s ≤ 2) ∧ (0 ≤ at_ W 10 s ∧ at_ W 10 s ≤ 9999) ∧ (at_ W 11 s = 0 ∨ (1 ≤ at_ W 11 s ∧ at_ W 11 s + at_ W 7 s - 1 ≤ pgs W))) ∧
  (∀ b, 0 ≤ b → b < nB W → (at_ W 12 b = 1 ∨ at_ W 12 b = 2 ∨ at_ W 12 b = 4) ∧ (0 ≤ at_ W 13 b ∧ at_ W 13 b ≤ pgs W)) ∧
  (∀ f, 0 ≤ f → f < 2 * sg W → (at_ W 14 f = 0 ∨ at_ W 14 f = 1) ∧ (at_ W 15 f = 0 ∨ at_ W 15 f = 1) ∧ (at_ W 16 f = -1 ∨ (1 ≤ at_ W 16 f ∧ at_ W 16 f ≤ 9999)))
theorem Val.pg {W : Vw} (h : Val W) : 4 ≤ pgs W ∧ pgs W ≤ 64 := by
  obtain ⟨-, -, -, h1, h2, -⟩ := h.1
  unfold pgs
  rcases h2 with h2 | h2 | h2 <;> rw [h2] <;> omega
/-! the reference's numbers -/
/-! the class's numbers -/
theorem vC_ad {S : St} {s : Nat} {a : Int} {k : Nat} (hk : k < 7) (h0 : 0 ≤ a) (h : a < nA (vC S s)) : g S (s + 2 + k) a.toNat = at_ (vC S s) k a := by
  unfold at_ vC
  have h2 : a < g S (s + 1) 7 := h
  rw [if_pos hk, if_pos (by omega)]
theorem vC_st {S : St} {s : Nat} {a : Int} {k : Nat} (hk : k < 5) (h0 : 0 ≤ a) (h : a < nS (vC S s)) : g S (s + 10 + k) a.toNat = at_ (vC S s) (k + 7) a := by
  unfold at_ vC
  have h2 : a < g S (s + 9) 5 := h
  rw [if_neg (by omega), if_pos (by omega), if_pos (by omega)]
  congr 1; omega
theorem vC_sb {S : St} {s : Nat} {a : Int} {k : Nat} (hk : k < 2) (h0 : 0 ≤ a) (h : a < nB (vC S s)) : g S (s + 16 + k) a.toNat = at_ (vC S s) (k + 12) a := by
  unfold at_ vC
  have h2 : a < g S (s + 15) 2 := h
  rw [if_neg (by omega), if_neg (by omega), if_pos (by omega), if_pos (by omega)]
  congr 1; omega
theorem vC_fo {S : St} {s : Nat} {a : Int} {k : Nat} (hk : k < 2) (h0 : 0 ≤ a) (h : a < 2 * sg (vC S s)) : g S (s + 19 + k) a.toNat = at_ (vC S s) (k + 14) a := by
  unfold at_ vC
  have h2 : a < 2 * g S s 4 := h
  rw [if_neg (by omega), if_neg (by omega), if_neg (by omega), if_pos (by omega), if_pos (by omega)]
  congr 1; omega
theorem vC_cl {S : St} {s : Nat} {a : Int} (h0 : 0 ≤ a) (h : a < 2 * sg (vC S s)) : cl6 (g S (s + 21) a.toNat) = at_ (vC S s) 16 a := by
  unfold at_ vC
  have h2 : a < 2 * g S s 4 := h
  rw [if_neg (by omega), if_neg (by omega), if_neg (by omega), if_neg (by omega), if_pos rfl, if_pos (by omega)]

