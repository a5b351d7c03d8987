/-! SUMS -/
theorem sumR_bd {w : Int → Int} {l h : Int} : ∀ {n : Nat} {i : Int}, (∀ j, i ≤ j → j < i + n → l ≤ w j ∧ w j ≤ h) → (n : Int) * l ≤ sumR w i n ∧ sumR w i n ≤ (n : Int) * h
  | 0, _, _ => by
    show ((0 : Nat) : Int) * l ≤ 0 ∧ 0 ≤ ((0 : Nat) : Int) * h
    simp
  | n + 1, i, hw => by
    have q := sumR_bd (w := w) (l := l) (h := h) (n := n) (i := i + 1) (fun j h1 h2 => hw j (by omega) (by omega))
    have q0 := hw i (by omega) (by omega)
    have e1 : ((n + 1 : Nat) : Int) * l = (n : Int) * l + l := by rw [Int.natCast_add, Int.add_mul]; simp
    have e2 : ((n + 1 : Nat) : Int) * h = (n : Int) * h + h := by rw [Int.natCast_add, Int.add_mul]; simp
    show _ ≤ w i + sumR w (i + 1) n ∧ w i + sumR w (i + 1) n ≤ _
    rw [e1, e2]
    omega
theorem sumR_0 {w : Int → Int} {n : Nat} {i : Int} (h : ∀ j, i ≤ j → j < i + n → w j = 0) : sumR w i n = 0 := by
  have q := sumR_bd (w := w) (l := 0) (h := 0) (n := n) (i := i) (fun j h1 h2 => by rw [h j h1 h2]; omega)
  rw [Int.mul_zero] at q
  omega
theorem sumR_one {w : Int → Int} {a : Int} : ∀ {n : Nat} {i : Int}, i ≤ a → a < i + n → sumR w i n = w a + sumR (fun j => if j = a then 0 else w j) i n
  | 0, _, h1, h2 => by omega
  | n + 1, i, h1, h2 => by
    show w i + sumR w (i + 1) n = w a + ((if i = a then 0 else w i) + sumR _ (i + 1) n)
    by_cases h : i = a
    · subst h
      rw [if_pos rfl, Int.zero_add]
      congr 1
      exact sumR_congr (fun j h3 h4 => by rw [if_neg (by omega)])
    · rw [if_neg h, sumR_one (w := w) (a := a) (n := n) (i := i + 1) (by omega) (by omega)]
      omega
theorem sumR_pos {p : Int → Bool} : ∀ {n : Nat} {i : Int}, 0 < sumR (fun j => if p j = true then 1 else 0) i n ↔ anyR p i n = true
  | 0, i => by
    show (0 : Int) < 0 ↔ false = true
    constructor
    · intro h; omega
    · intro h; cases h
  | n + 1, i => by
    have q := sumR_pos (p := p) (n := n) (i := i + 1)
    have q2 := (sumR_bd (w := fun j => if p j = true then 1 else 0) (l := 0) (h := 1) (n := n) (i := i + 1) (fun j _ _ => by split <;> omega)).1
    show 0 < (if p i = true then 1 else 0) + sumR _ (i + 1) n ↔ (p i || anyR p (i + 1) n) = true
    rw [Int.mul_zero] at q2
    by_cases h : p i = true
    · rw [if_pos h, h, Bool.true_or]
      constructor
      · intro _; rfl
      · intro _; omega
    · rw [if_neg h, Bool.eq_false_iff.mpr h, Bool.false_or, Int.zero_add]; exact q
theorem sumR_add {w w' : Int → Int} : ∀ {n : Nat} {i : Int}, sumR (fun j => w j + w' j) i n = sumR w i n + sumR w' i n
  | 0, _ => rfl
  | n + 1, i => by
    show (w i + w' i) + sumR (fun j => w j + w' j) (i + 1) n = (w i + sumR w (i + 1) n) + (w' i + sumR w' (i + 1) n)
    rw [sumR_add (n := n)]
    omega
theorem sumR_neg {w : Int → Int} : ∀ {n : Nat} {i : Int}, sumR (fun j => -w j) i n = -sumR w i n
  | 0, _ => rfl
  | n + 1, i => by
    show -w i + sumR (fun j => -w j) (i + 1) n = -(w i + sumR w (i + 1) n)
    rw [sumR_neg (n := n)]
    omega
theorem sumR_snoc {w : Int → Int} : ∀ {n : Nat} {i : Int}, sumR w i (n + 1) = sumR w i n + w (i + n)
  | 0, i => by
    show w i + 0 = 0 + w (i + ((0 : Nat) : Int))
    simp
  | n + 1, i => by
    show w i + sumR w (i + 1) (n + 1) = (w i + sumR w (i + 1) n) + w (i + ((n + 1 : Nat) : Int))
    rw [sumR_snoc (n := n), show i + 1 + (n : Int) = i + ((n + 1 : Nat) : Int) by omega]
    omega
theorem anyR_congr2 {p p' : Int → Bool} {n n' : Nat} {i i' : Int} (h : (∃ j, i ≤ j ∧ j < i + n ∧ p j = true) ↔ (∃ j, i' ≤ j ∧ j < i' + n' ∧ p' j = true)) : anyR p i n = anyR p' i' n' := by
  rw [← anyR_iff, ← anyR_iff] at h
  cases e : anyR p i n <;> cases e' : anyR p' i' n'
  · rfl
  · rw [h.mpr e'] at e; cases e
  · rw [h.mp e] at e'; cases e'
  · rfl
/-! WHAT KEEPS A PLAN SOUND -/
def rawR (W : Vw) (p bA bB : Int) : Int := 4 + sumA W (fun a => -szA W p bA a) + sumB W (fun b => -szB W p bB b)
def Wf (W : Vw) : Prop := (∀ q, 1 ≤ q → q ≤ pgs W → 0 ≤ rawR W q (-1) (-1)) ∧ (∀ s, 0 ≤ s → s < nS W → ∀ q, cov W s q = true → (∀ a, 0 ≤ a → a < nA W → at_ W 6 a ≠ q) ∧ (∀ b, 0 ≤ b → b < nB W → at_ W 13 b ≠ q) ∧ (∀ t, 0 ≤ t → t < nS W → t ≠ s → cov W t q = false))
section PureView
variable {W : Vw}
theorem toNat_n {z : Int} (h : 0 ≤ z) : ((z.toNat : Nat) : Int) = z := by omega
theorem Val.z (hV : Val W) : (0 ≤ nA W ∧ nA W ≤ 40) ∧ (0 ≤ nS W ∧ nS W ≤ 10) ∧ (0 ≤ nB W ∧ nB W ≤ 8) ∧ (1 ≤ sg W ∧ sg W ≤ 4) ∧ (4 ≤ pe W ∧ pe W ≤ 16) ∧ (0 ≤ tm W ∧ tm W ≤ 9999) ∧ (4 ≤ pgs W ∧ pgs W ≤ 64) ∧ (2 ≤ frm W ∧ frm W ≤ 8) := by
  have h2 := hV.pg
  have h8 := frm_b hV
  obtain ⟨h1, h3, h4, h5, h6, h7⟩ := hV.1
  exact ⟨h1, h3, h4, h5, by omega, h7, h2, h8⟩
theorem szA_bd (hV : Val W) {p b a : Int} (h : 0 ≤ a ∧ a < nA W) : 0 ≤ szA W p b a ∧ szA W p b a ≤ 4 := by
  have v := hV.2.1 a h.1 h.2
  unfold szA
  split <;> omega
theorem szB_bd (hV : Val W) {p b a : Int} (h : 0 ≤ a ∧ a < nB W) : 0 ≤ szB W p b a ∧ szB W p b a ≤ 4 := by
  have v := hV.2.2.2.1 a h.1 h.2
  unfold szB
  split <;> omega
theorem rawR_bd (hV : Val W) {p a b : Int} : -200 ≤ rawR W p a b ∧ rawR W p a b ≤ 4 := by
  have z := hV.z
  have q1 := sumR_bd (w := fun x => -szA W p a x) (l := -4) (h := 0) (n := (nA W).toNat) (i := 0) (fun j h1 h2 => by have := szA_bd hV (p := p) (b := a) (a := j) ⟨h1, by omega⟩; omega)
  have q2 := sumR_bd (w := fun x => -szB W p b x) (l := -4) (h := 0) (n := (nB W).toNat) (i := 0) (fun j h1 h2 => by have := szB_bd hV (p := p) (b := b) (a := j) ⟨h1, by omega⟩; omega)
  rw [Int.mul_zero] at q1 q2
  unfold rawR sumA sumB
  omega
theorem room_raw (hV : Val W) {p a b : Int} : room W p a b = rawR W p a b := by
  have q := rawR_bd hV (p := p) (a := a) (b := b)
  exact wr_s (by show _ ≤ rawR W p a b; omega) (by show rawR W p a b < _; omega)
theorem rawR_but (hV : Val W) {p a b : Int} (ha : 0 ≤ a ∧ a < nA W) : rawR W p a b = rawR W p (-1) b + (if at_ W 6 a = p then at_ W 0 a else 0) := by
  have z := hV.z
  unfold rawR sumA
  rw [sumR_one (w := fun x => -szA W p (-1) x) (a := a) ha.1 (by omega), sumR_one (w := fun x => -szA W p a x) (a := a) ha.1 (by omega)]
  have e : sumR (fun j => if j = a then 0 else -szA W p a j) 0 (nA W).toNat = sumR (fun j => if j = a then 0 else -szA W p (-1) j) 0 (nA W).toNat := by
    refine sumR_congr (fun j h1 h2 => ?_)
    by_cases c : j = a
    · rw [if_pos c, if_pos c]
    · rw [if_neg c, if_neg c]
      unfold szA
      by_cases c2 : at_ W 6 j = p
      · rw [if_pos ⟨c, c2⟩, if_pos ⟨by omega, c2⟩]
      · rw [if_neg (fun q => c2 q.2), if_neg (fun q => c2 q.2)]
  rw [e]
  have e1 : szA W p a a = 0 := if_neg (fun q => q.1 rfl)
  have e2 : szA W p (-1) a = if at_ W 6 a = p then at_ W 0 a else 0 := by
    unfold szA
    by_cases c2 : at_ W 6 a = p
    · rw [if_pos ⟨by omega, c2⟩, if_pos c2]
    · rw [if_neg (fun q => c2 q.2), if_neg c2]
  rw [e1, e2]
  omega
theorem rawR_butB (hV : Val W) {p a b : Int} (hb : 0 ≤ b ∧ b < nB W) : rawR W p a b = rawR W p a (-1) + (if at_ W 13 b = p then at_ W 12 b else 0) := by
  have z := hV.z
  unfold rawR sumB
  rw [sumR_one (w := fun x => -szB W p (-1) x) (a := b) hb.1 (by omega), sumR_one (w := fun x => -szB W p b x) (a := b) hb.1 (by omega)]
  have e : sumR (fun j => if j = b then 0 else -szB W p b j) 0 (nB W).toNat = sumR (fun j => if j = b then 0 else -szB W p (-1) j) 0 (nB W).toNat := by
    refine sumR_congr (fun j h1 h2 => ?_)
    by_cases c : j = b
    · rw [if_pos c, if_pos c]
    · rw [if_neg c, if_neg c]
      unfold szB
      by_cases c2 : at_ W 13 j = p
      · rw [if_pos ⟨c, c2⟩, if_pos ⟨by omega, c2⟩]
      · rw [if_neg (fun q => c2 q.2), if_neg (fun q => c2 q.2)]
  rw [e]
  have e1 : szB W p b b = 0 := if_neg (fun q => q.1 rfl)
  have e2 : szB W p (-1) b = if at_ W 13 b = p then at_ W 12 b else 0 := by
    unfold szB
    by_cases c2 : at_ W 13 b = p
    · rw [if_pos ⟨by omega, c2⟩, if_pos c2]
    · rw [if_neg (fun q => c2 q.2), if_neg c2]
  rw [e1, e2]
  omega
theorem stOn_spec (hV : Val W) {p but : Int} : (stOn W p but = -1 ∧ ∀ s, 0 ≤ s → s < nS W → s ≠ but → cov W s p = false) ∨ (0 ≤ stOn W p but ∧ stOn W p but < nS W ∧ stOn W p but ≠ but ∧ cov W (stOn W p but) p = true) := by
  have z := hV.z
  rcases fstR_spec (p := fun s => decide (s ≠ but) && cov W s p) (n := (nS W).toNat) (i := 0) (Int.le_refl _) with ⟨h1, h2⟩ | ⟨h1, h2, h3, -⟩
  · refine .inl ⟨h1, fun s h3 h4 h5 => ?_⟩
    have q := h2 s h3 (by omega)
    rw [decide_eq_true h5, Bool.true_and] at q
    exact q
  · refine .inr ⟨h1, by show _ < nS W; unfold stOn; omega, ?_, ?_⟩
    · rw [Bool.and_eq_true] at h3
      exact of_decide_eq_true h3.1
    · rw [Bool.and_eq_true] at h3
      exact h3.2
theorem stOn_cov (hV : Val W) (hW : Wf W) {s p : Int} (hs : 0 ≤ s ∧ s < nS W) (hc : cov W s p = true) : stOn W p (-1) = s := by
  rcases stOn_spec hV (p := p) (but := -1) with ⟨h1, h2⟩ | ⟨h1, h2, h3, h4⟩
  · rw [h2 s hs.1 hs.2 (by omega)] at hc; cases hc
  · by_cases e : stOn W p (-1) = s
    · exact e
    · have q := (hW.2 s hs.1 hs.2 p hc).2.2 _ h1 h2 e
      rw [q] at h4; cases h4
theorem stOn_but (hV : Val W) (hW : Wf W) {s p : Int} : stOn W p s = if stOn W p (-1) = s then -1 else stOn W p (-1) := by
  rcases stOn_spec hV (p := p) (but := -1) with ⟨h1, h2⟩ | ⟨h1, h2, h3, h4⟩
  · rcases stOn_spec hV (p := p) (but := s) with ⟨g1, g2⟩ | ⟨g1, g2, g3, g4⟩
    · rw [g1, h1]; split <;> rfl
    · rw [h2 _ g1 g2 (by omega)] at g4; cases g4
  · by_cases e : stOn W p (-1) = s
    · rw [if_pos e]
      rcases stOn_spec hV (p := p) (but := s) with ⟨g1, g2⟩ | ⟨g1, g2, g3, g4⟩
      · exact g1
      · have q := (hW.2 _ h1 h2 p h4).2.2 _ g1 g2 (by omega)
        rw [q] at g4; cases g4
    · rw [if_neg e]
      rcases stOn_spec hV (p := p) (but := s) with ⟨g1, g2⟩ | ⟨g1, g2, g3, g4⟩
      · have q := g2 _ h1 h2 e
        rw [q] at h4; cases h4
      · exact (stOn_cov hV hW ⟨g1, g2⟩ g4).symm
theorem raw_story (hW : Wf W) {s p a b : Int} (hs : 0 ≤ s ∧ s < nS W) (hc : cov W s p = true) : rawR W p a b = 4 := by
  have q := hW.2 s hs.1 hs.2 p hc
  unfold rawR sumA sumB
  rw [sumR_0 (fun j h1 h2 => ?_), sumR_0 (fun j h1 h2 => ?_)]
  · rfl
  · unfold szB; rw [if_neg (fun z => q.2.1 j h1 (by omega) z.2)]; rfl
  · unfold szA; rw [if_neg (fun z => q.1 j h1 (by omega) z.2)]; rfl
theorem lf_bd (hV : Val W) (hW : Wf W) {p : Int} (h1 : 1 ≤ p) (h2 : p ≤ pgs W) : 0 ≤ lf W p ∧ lf W p ≤ 4 := by
  unfold lf lefO
  split
  · rw [room_raw hV]
    exact ⟨hW.1 p h1 h2, (rawR_bd hV).2⟩
  · omega
theorem lefO_but (hV : Val W) (hW : Wf W) {p a : Int} (ha : 0 ≤ a ∧ a < nA W) : lefO W p a (-1) = lf W p + (if at_ W 6 a = p then at_ W 0 a else 0) := by
  unfold lf lefO
  by_cases c : stOn W p (-1) = -1
  · rw [if_pos c, if_pos c, room_raw hV, room_raw hV, rawR_but hV ha]
  · rw [if_neg c, if_neg c]
    rcases stOn_spec hV (p := p) (but := -1) with ⟨h1, h2⟩ | ⟨h1, h2, h3, h4⟩
    · exact absurd h1 c
    · rw [if_neg ((hW.2 _ h1 h2 p h4).1 a ha.1 ha.2)]; rfl
theorem lefO_butB (hV : Val W) (hW : Wf W) {p b : Int} (hb : 0 ≤ b ∧ b < nB W) : lefO W p (-1) b = lf W p + (if at_ W 13 b = p then at_ W 12 b else 0) := by
  unfold lf lefO
  by_cases c : stOn W p (-1) = -1
  · rw [if_pos c, if_pos c, room_raw hV, room_raw hV, rawR_butB hV hb]
  · rw [if_neg c, if_neg c]
    rcases stOn_spec hV (p := p) (but := -1) with ⟨h1, h2⟩ | ⟨h1, h2, h3, h4⟩
    · exact absurd h1 c
    · rw [if_neg ((hW.2 _ h1 h2 p h4).2.1 b hb.1 hb.2)]; rfl
def grpP (W : Vw) (y s a : Int) : Bool := decide (at_ W 1 a = y ∧ 0 < at_ W 6 a ∧ at_ W 6 a / 2 = s)
theorem grp_cnt (hV : Val W) {y s : Int} : grp W y s = sumA W (fun a => if grpP W y s a = true then 1 else 0) ∧ 0 ≤ grp W y s ∧ grp W y s ≤ 40 := by
  have z := hV.z
  have e : sumA W (fun a => if at_ W 1 a = y then (if at_ W 6 a ≤ 0 then 0 else if at_ W 6 a / 2 = s then 1 else 0) else 0) = sumA W (fun a => if grpP W y s a = true then 1 else 0) := by
    refine sumR_congr (fun j h1 h2 => ?_)
    unfold grpP
    by_cases c1 : at_ W 1 j = y
    · rw [if_pos c1]
      by_cases c2 : at_ W 6 j ≤ 0
      · rw [if_pos c2, decide_eq_false (by omega), if_neg (by decide)]
      · rw [if_neg c2]
        by_cases c3 : at_ W 6 j / 2 = s
        · rw [if_pos c3, decide_eq_true ⟨c1, by omega, c3⟩, if_pos rfl]
        · rw [if_neg c3, decide_eq_false (fun q => c3 q.2.2), if_neg (by decide)]
    · rw [if_neg c1, decide_eq_false (fun q => c1 q.1), if_neg (by decide)]
  have q := sumR_bd (w := fun a => if grpP W y s a = true then 1 else 0) (l := 0) (h := 1) (n := (nA W).toNat) (i := 0) (fun j _ _ => by split <;> omega)
  unfold grp
  rw [e]
  unfold sumA
  rw [Int.mul_zero, Int.mul_one] at q
  rw [wr_s (by omega) (by omega)]
  exact ⟨rfl, by omega, by omega⟩
theorem rivl_cnt (hV : Val W) {a s : Int} (ha : 0 ≤ a ∧ a < nA W) : rivl W a s = (decide (at_ W 1 a ≠ 0) && decide ((if at_ W 6 a ≠ 0 ∧ at_ W 6 a / 2 = s then 1 else 0) < grp W (at_ W 1 a) s)) := by
  have z := hV.z
  have v := hV.2.1 a ha.1 ha.2
  rw [(grp_cnt hV).1]
  unfold sumA
  rw [sumR_one (a := a) ha.1 (by omega)]
  have e0 : (if grpP W (at_ W 1 a) s a = true then (1 : Int) else 0) = if at_ W 6 a ≠ 0 ∧ at_ W 6 a / 2 = s then 1 else 0 := by
    unfold grpP
    by_cases c : at_ W 6 a ≠ 0 ∧ at_ W 6 a / 2 = s
    · rw [if_pos c, decide_eq_true ⟨rfl, by omega, c.2⟩, if_pos rfl]
    · rw [if_neg c, decide_eq_false (fun q => c ⟨by omega, q.2.2⟩), if_neg (by decide)]
  have e1 : sumR (fun j => if j = a then 0 else if grpP W (at_ W 1 a) s j = true then 1 else 0) 0 (nA W).toNat = sumR (fun j => if (decide (j ≠ a) && grpP W (at_ W 1 a) s j) = true then 1 else 0) 0 (nA W).toNat := by
    refine sumR_congr (fun j h1 h2 => ?_)
    by_cases c : j = a
    · rw [if_pos c, decide_eq_false (fun q => q c), Bool.false_and, if_neg (by decide)]
    · rw [if_neg c, decide_eq_true c, Bool.true_and]
  rw [e1]
  show rivl W a s = (decide (at_ W 1 a ≠ 0) && decide (_ < (if grpP W (at_ W 1 a) s a = true then (1 : Int) else 0) + _))
  rw [e0]
  generalize (if at_ W 6 a ≠ 0 ∧ at_ W 6 a / 2 = s then (1 : Int) else 0) = x
  have q := sumR_pos (p := fun j => decide (j ≠ a) && grpP W (at_ W 1 a) s j) (n := (nA W).toNat) (i := 0)
  have e2 : anyA W (fun o => decide (o ≠ a ∧ 0 < at_ W 6 o ∧ at_ W 6 o / 2 = s ∧ at_ W 1 o = at_ W 1 a)) = anyR (fun j => decide (j ≠ a) && grpP W (at_ W 1 a) s j) 0 (nA W).toNat := by
    refine anyR_congr (fun j h1 h2 => ?_)
    unfold grpP
    rw [← Bool.decide_and]
    congr 1
    exact propext ⟨fun h => ⟨h.1, h.2.2.2, h.2.1, h.2.2.1⟩, fun h => ⟨h.1, h.2.2.1, h.2.2.2, h.2.1⟩⟩
  unfold rivl
  rw [e2, Bool.and_comm]
  congr 1
  generalize sumR _ 0 (nA W).toNat = y at q ⊢
  cases e : anyR (fun j => decide (j ≠ a) && grpP W (at_ W 1 a) s j) 0 (nA W).toNat
  · rw [e] at q
    rw [decide_eq_false (fun z => by have := q.mp (by omega); cases this)]
  · rw [e] at q
    rw [decide_eq_true (by have := q.mpr rfl; omega)]
end PureView

