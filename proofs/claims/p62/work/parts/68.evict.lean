/-! LISTS OF ADS AND MASKS OVER THEM -/
section Masks
theorem mk_all : ∀ k : Nat, k < 5 → ∀ b0 b1 b2 b3 : Bool, 0 ≤ ((if 0 < k then bi b0 else 0) + (if 1 < k then 2 * bi b1 else 0) + (if 2 < k then 4 * bi b2 else 0) + (if 3 < k then 8 * bi b3 else 0)) ∧ ((if 0 < k then bi b0 else 0) + (if 1 < k then 2 * bi b1 else 0) + (if 2 < k then 4 * bi b2 else 0) + (if 3 < k then 8 * bi b3 else 0)) < i_shl 1 (k : Int) ∧ (0 < k → bt ((if 0 < k then bi b0 else 0) + (if 1 < k then 2 * bi b1 else 0) + (if 2 < k then 4 * bi b2 else 0) + (if 3 < k then 8 * bi b3 else 0)) 0 = bi b0) ∧ (1 < k → bt ((if 0 < k then bi b0 else 0) + (if 1 < k then 2 * bi b1 else 0) + (if 2 < k then 4 * bi b2 else 0) + (if 3 < k then 8 * bi b3 else 0)) 1 = bi b1) ∧ (2 < k → bt ((if 0 < k then bi b0 else 0) + (if 1 < k then 2 * bi b1 else 0) + (if 2 < k then 4 * bi b2 else 0) + (if 3 < k then 8 * bi b3 else 0)) 2 = bi b2) ∧ (3 < k → bt ((if 0 < k then bi b0 else 0) + (if 1 < k then 2 * bi b1 else 0) + (if 2 < k then 4 * bi b2 else 0) + (if 3 < k then 8 * bi b3 else 0)) 3 = bi b3) := by
  intro k hk b0 b1 b2 b3
  cases b0 <;> cases b1 <;> cases b2 <;> cases b3 <;> revert k <;> decide +kernel
theorem mk_mask {k : Int} (hk : 0 ≤ k ∧ k ≤ 4) (b : Int → Bool) : ∃ m, 0 ≤ m ∧ m < i_shl 1 k ∧ ∀ j, 0 ≤ j → j < k → (bt m j = 1 ↔ b j = true) := by
  have q := mk_all k.toNat (by omega) (b 0) (b 1) (b 2) (b 3)
  rw [show ((k.toNat : Nat) : Int) = k by omega] at q
  obtain ⟨h0, h1, h2, h3, h4, h5⟩ := q
  refine ⟨_, h0, h1, fun j j0 j1 => ?_⟩
  have e : j = 0 ∨ j = 1 ∨ j = 2 ∨ j = 3 := by omega
  rcases e with rfl | rfl | rfl | rfl
  · rw [h2 (by omega)]; cases b 0 <;> decide
  · rw [h3 (by omega)]; cases b 1 <;> decide
  · rw [h4 (by omega)]; cases b 2 <;> decide
  · rw [h5 (by omega)]; cases b 3 <;> decide
theorem sh4 {k : Int} (hk : 0 ≤ k ∧ k ≤ 4) : 1 ≤ i_shl 1 k ∧ i_shl 1 k ≤ 16 := by
  have e : k = 0 ∨ k = 1 ∨ k = 2 ∨ k = 3 ∨ k = 4 := by omega
  rcases e with rfl | rfl | rfl | rfl | rfl <;> decide
theorem lp_sumx2 {β : Type} {body : (Int × Int × Int → Option (β ⊕ Int × Int)) → Int × Int × Int → Option (β ⊕ Int × Int)} (p : Int → Bool) (r : β) (c w : Int → Int) (lo B : Int)
    (hx : ∀ go a b i, B ≤ i → body go (a, b, i) = some (.inr (a, b))) (hs : ∀ go a b i, inR a → inR b → lo ≤ i → i < B → body go (a, b, i) = if p i = true then some (.inl r) else go (wr (a + c i), wr (b + w i), i + 1)) {n : Nat} {a b : Int} (ha : inR a) (hb : inR b) (hn : (B - lo).toNat < n) :
    lp body n (a, b, lo) = if anyR p lo (B - lo).toNat = true then some (.inl r) else some (.inr (wr (a + sumR c lo (B - lo).toNat), wr (b + sumR w lo (B - lo).toNat))) := by
  have q : ∀ (m n : Nat) (i a b : Int), inR a → inR b → lo ≤ i → (B - i).toNat = m → m < n → lp body n (a, b, i) = if anyR p i m = true then some (.inl r) else some (.inr (wr (a + sumR c i m), wr (b + sumR w i m))) := by
    intro m
    induction m with
    | zero =>
      intro n i a b ha hb h1 h2 h3
      obtain ⟨n, rfl⟩ : ∃ k, n = k + 1 := ⟨n - 1, by omega⟩
      rw [lp_succ, hx _ _ _ _ (by omega)]
      show _ = if false = true then (some (.inl r) : Option (β ⊕ Int × Int)) else some (.inr (wr (a + 0), wr (b + 0)))
      rw [if_neg Bool.false_ne_true, Int.add_zero, wr_id ha, Int.add_zero, wr_id hb]
    | succ m ih =>
      intro n i a b ha hb h1 h2 h3
      obtain ⟨n, rfl⟩ : ∃ k, n = k + 1 := ⟨n - 1, by omega⟩
      rw [lp_succ, hs _ _ _ _ ha hb h1 (by omega)]
      show _ = if (p i || anyR p (i + 1) m) = true then (some (.inl r) : Option (β ⊕ Int × Int)) else some (.inr (wr (a + (c i + sumR c (i + 1) m)), wr (b + (w i + sumR w (i + 1) m))))
      cases z : p i
      · rw [if_neg Bool.false_ne_true, ih n (i + 1) _ _ (wr_in _) (wr_in _) (by omega) (by omega) (by omega), Bool.false_or, wr_add, wr_add, Int.add_assoc, Int.add_assoc]
      · rw [if_pos rfl, Bool.true_or, if_pos rfl]
  exact q _ n lo a b ha hb (Int.le_refl _) rfl hn
def LsI (S T : St) (c : Nat) (m : Int → Bool) (i k : Int) : Prop := (0 ≤ i ∧ 0 ≤ k) ∧ Off S T c (c + 1) ∧ (∀ j : Int, 0 ≤ j → j < k → (0 ≤ g T c j.toNat ∧ g T c j.toNat < i) ∧ m (g T c j.toNat) = true) ∧ (∀ j j' : Int, 0 ≤ j → j < j' → j' < k → g T c j.toNat < g T c j'.toNat) ∧ ∀ w : Int → Int, sumR (fun j => w (g T c j.toNat)) 0 k.toNat = sumR (fun x => if m x = true then w x else 0) 0 i.toNat
variable {S T : St} {c : Nat} {m : Int → Bool} {i k : Int}
theorem LsI.zero : LsI S S c m 0 0 := ⟨⟨Int.le_refl _, Int.le_refl _⟩, Off.refl, fun j h1 h2 => by omega, fun j j' h1 h2 h3 => by omega, fun _ => rfl⟩
theorem LsI.skip (h : LsI S T c m i k) (hm : m i = false) : LsI S T c m (i + 1) k := by
  refine ⟨⟨by have := h.1.1; omega, h.1.2⟩, h.2.1, fun j h1 h2 => ⟨⟨(h.2.2.1 j h1 h2).1.1, by have := (h.2.2.1 j h1 h2).1.2; omega⟩, (h.2.2.1 j h1 h2).2⟩, h.2.2.2.1, fun w => ?_⟩
  have := h.1.1
  rw [h.2.2.2.2 w, show (i + 1).toNat = i.toNat + 1 by omega, sumR_snoc, show (0 : Int) + ((i.toNat : Nat) : Int) = i by omega, if_neg (by rw [hm]; exact Bool.false_ne_true), Int.add_zero]
theorem LsI.add (h : LsI S T c m i k) (hm : m i = true) (hi : i < 1000) (hk : k < 1000) : LsI S (u T c k.toNat i) c m (i + 1) (k + 1) := by
  have i0 := h.1.1
  have k0 := h.1.2
  have old : ∀ j : Int, 0 ≤ j → j < k → g (u T c k.toNat i) c j.toNat = g T c j.toNat := fun j h1 h2 => g_ne (by omega)
  have new : g (u T c k.toNat i) c k.toNat = i := by rw [g_eq, wr_s (by omega) (by omega)]
  refine ⟨⟨by omega, by omega⟩, h.2.1.tu (Nat.le_refl _) (by omega), fun j h1 h2 => ?_, fun j j' h1 h2 h3 => ?_, fun w => ?_⟩
  · by_cases e : j = k
    · rw [e, new]; exact ⟨⟨i0, by omega⟩, hm⟩
    · rw [old j h1 (by omega)]
      have q := h.2.2.1 j h1 (by omega)
      exact ⟨⟨q.1.1, by omega⟩, q.2⟩
  · by_cases e : j' = k
    · rw [e, new, old j h1 (by omega)]
      exact (h.2.2.1 j h1 (by omega)).1.2
    · rw [old j h1 (by omega), old j' (by omega) (by omega)]
      exact h.2.2.2.1 j j' h1 h2 (by omega)
  · rw [show (i + 1).toNat = i.toNat + 1 by omega, sumR_snoc, show (k + 1).toNat = k.toNat + 1 by omega, sumR_snoc, show (0 : Int) + ((i.toNat : Nat) : Int) = i by omega, show (0 : Int) + ((k.toNat : Nat) : Int) = k by omega, new, if_pos hm, ← h.2.2.2.2 w]
    congr 1
    refine sumR_congr (fun j h1 h2 => ?_)
    show w (g (u T c k.toNat i) c j.toNat) = w (g T c j.toNat)
    rw [old j h1 (by omega)]
theorem sumR_k {n : Nat} : ∀ {i : Int}, sumR (fun _ => 1) i n = (n : Int) := by
  induction n with
  | zero => intro i; rfl
  | succ n ih => intro i; show 1 + sumR (fun _ => 1) (i + 1) n = _; rw [ih]; omega
theorem LsI.cnt (h : LsI S T c m i k) : k = sumR (fun x => if m x = true then 1 else 0) 0 i.toNat := by
  have q := h.2.2.2.2 (fun _ => 1)
  rw [sumR_k] at q
  have := h.1.2
  omega
def selM (T : St) (c : Nat) (k m : Int) (x : Int) : Bool := anyR (fun j => decide (g T c j.toNat = x) && decide (bt m j = 1)) 0 k.toNat
theorem LsI.sel (h : LsI S T c m i k) {z j : Int} (h1 : 0 ≤ j) (h2 : j < k) : selM T c k z (g T c j.toNat) = true ↔ bt z j = 1 := by
  unfold selM
  rw [anyR_iff]
  constructor
  · rintro ⟨y, y1, y2, y3⟩
    rw [Bool.and_eq_true, decide_eq_true_eq, decide_eq_true_eq] at y3
    have e : y = j := by
      by_cases a1 : y < j
      · have := h.2.2.2.1 y j y1 a1 h2; omega
      · by_cases a2 : j < y
        · have := h.2.2.2.1 j y h1 a2 (by omega); omega
        · omega
    rw [← e]; exact y3.2
  · intro e
    exact ⟨j, h1, by omega, by rw [Bool.and_eq_true, decide_eq_true_eq, decide_eq_true_eq]; exact ⟨rfl, e⟩⟩
def lsF (v : Int → Bool) (pr : Int → Int) (x s : Int) : Int := if v x = true then (if s ≤ pr x then s else pr x) else s
theorem lsF_spec {v : Int → Bool} {pr : Int → Int} (hp : ∀ x, pr x < 1000000) : ∀ N : Nat, (itR (lsF v pr) 0 N 1000000 = 1000000 ∧ ∀ x : Int, 0 ≤ x → x < (N : Int) → v x = false) ∨ (∃ x : Int, 0 ≤ x ∧ x < (N : Int) ∧ v x = true ∧ pr x = itR (lsF v pr) 0 N 1000000 ∧ ∀ y : Int, 0 ≤ y → y < (N : Int) → v y = true → pr x ≤ pr y)
  | 0 => .inl ⟨rfl, fun x h1 h2 => by omega⟩
  | N + 1 => by
    have ih := lsF_spec (v := v) (pr := pr) hp N
    rw [itR_snoc, Int.zero_add]
    obtain ⟨s, hs⟩ : ∃ s, s = itR (lsF v pr) 0 N 1000000 := ⟨_, rfl⟩
    rw [← hs] at ih ⊢
    unfold lsF
    cases e : v (N : Int)
    · rw [if_neg Bool.false_ne_true]
      rcases ih with ⟨h1, h2⟩ | ⟨x, h1, h2, h3, h4, h5⟩
      · refine .inl ⟨h1, fun x x1 x2 => ?_⟩
        by_cases z : x = N
        · rw [z]; exact e
        · exact h2 x x1 (by omega)
      · refine .inr ⟨x, h1, by omega, h3, h4, fun y y1 y2 y3 => ?_⟩
        by_cases z : y = N
        · rw [z, e] at y3; exact absurd y3 Bool.false_ne_true
        · exact h5 y y1 (by omega) y3
    · rw [if_pos rfl]
      have pn := hp N
      rcases ih with ⟨h1, h2⟩ | ⟨x, h1, h2, h3, h4, h5⟩
      · rw [if_neg (by omega : ¬ s ≤ pr N)]
        refine .inr ⟨N, by omega, by omega, e, rfl, fun y y1 y2 y3 => ?_⟩
        by_cases z : y = N
        · rw [z]; exact Int.le_refl _
        · rw [h2 y y1 (by omega)] at y3; exact absurd y3 Bool.false_ne_true
      · by_cases f : s ≤ pr N
        · rw [if_pos f]
          refine .inr ⟨x, h1, by omega, h3, h4, fun y y1 y2 y3 => ?_⟩
          by_cases z : y = N
          · rw [z]; omega
          · exact h5 y y1 (by omega) y3
        · rw [if_neg f]
          refine .inr ⟨N, by omega, by omega, e, rfl, fun y y1 y2 y3 => ?_⟩
          by_cases z : y = N
          · rw [z]; exact Int.le_refl _
          · have := h5 y y1 (by omega) y3; omega
end Masks
section Evict
variable {S T : St} {W : Vw} {n : Int} {hs : Int → Vw} {a p : Int}
def rvG (W : Vw) (a i : Int) : Bool := decide (at_ W 1 a ≠ 0 ∧ at_ W 1 i = at_ W 1 a)
def inP (W : Vw) (a p i : Int) : Bool := decide (i ≠ a ∧ at_ W 6 i = p)
def inM (W : Vw) (a p i : Int) : Bool := inP W a p i && !rvG W a i
def sdR (W : Vw) (a p i : Int) : Bool := decide (i ≠ a ∧ at_ W 6 i ≠ 0 ∧ at_ W 6 i ≠ p ∧ at_ W 6 i / 2 = p / 2) && rvG W a i
def szI (W : Vw) (a p : Int) : Int := sumR (fun x => if inP W a p x = true then at_ W 0 x else 0) 0 (nA W).toNat
theorem inP_cnt (hG : Good W) (hp : 1 ≤ p ∧ p ≤ pgs W) : sumR (fun x => if inP W a p x = true then 1 else 0) 0 (nA W).toNat ≤ 4 := by
  have r := hG.2.1.1 p hp.1 hp.2
  unfold rawR sumA sumB at r
  rw [sumR_neg, sumR_neg] at r
  have b1 : sumR (fun x => if inP W a p x = true then 1 else 0) 0 (nA W).toNat ≤ sumR (fun x => szA W p (-1) x) 0 (nA W).toNat := by
    refine sumR_mono (fun j h1 h2 => ?_)
    have v := hG.1.2.1 j h1 (by omega)
    show (if inP W a p j = true then (1 : Int) else 0) ≤ szA W p (-1) j
    unfold inP szA
    by_cases c : j ≠ a ∧ at_ W 6 j = p
    · rw [if_pos (decide_eq_true c), if_pos ⟨by omega, c.2⟩]; omega
    · rw [if_neg (by rw [decide_eq_true_eq]; exact c)]
      split <;> omega
  have b2 : 0 ≤ sumR (fun x => szB W p (-1) x) 0 (nB W).toNat := by
    have q := sumR_mono (w := fun _ => 0) (w' := fun x => szB W p (-1) x) (n := (nB W).toNat) (i := 0) (fun j h1 h2 => by
      have v := hG.1.2.2.2.1 j h1 (by omega)
      show 0 ≤ szB W p (-1) j
      unfold szB
      split <;> omega)
    rw [sumR_0 (w := fun _ => 0) (fun _ _ _ => rfl)] at q
    exact q
  have e1 : sumR (fun x => szA W p (-1) x) 0 (nA W).toNat = sumR (szA W p (-1)) 0 (nA W).toNat := rfl
  have e2 : sumR (fun x => szB W p (-1) x) 0 (nB W).toNat = sumR (szB W p (-1)) 0 (nB W).toNat := rfl
  rw [e1] at b1
  rw [e2] at b2
  rw [e1, e2] at r
  omega
theorem cnt_mono {m m' : Int → Bool} {i : Int} {N : Nat} (hi : i.toNat ≤ N) (h : ∀ x, m x = true → m' x = true) : sumR (fun x => if m x = true then 1 else 0) 0 i.toNat ≤ sumR (fun x => if m' x = true then (1 : Int) else 0) 0 N := by
  rw [show N = i.toNat + (N - i.toNat) by omega, sumR_app]
  have q1 := sumR_mono (w := fun x => if m x = true then (1 : Int) else 0) (w' := fun x => if m' x = true then (1 : Int) else 0) (n := i.toNat) (i := 0) (fun j _ _ => by
    show (if m j = true then (1 : Int) else 0) ≤ (if m' j = true then (1 : Int) else 0)
    by_cases c : m j = true
    · rw [if_pos c, if_pos (h j c)]; exact Int.le_refl _
    · rw [if_neg c]; split <;> omega)
  have q2 := sumR_mono (w := fun _ => (0 : Int)) (w' := fun x => if m' x = true then (1 : Int) else 0) (n := N - i.toNat) (i := 0 + (i.toNat : Int)) (fun j _ _ => by
    show (0 : Int) ≤ (if m' j = true then (1 : Int) else 0)
    split <;> omega)
  rw [sumR_0 (w := fun _ => (0 : Int)) (fun _ _ _ => rfl)] at q2
  omega
end Evict

