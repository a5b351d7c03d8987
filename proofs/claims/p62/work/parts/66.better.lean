/-! betterExchange, the numbers -/
theorem itR_snoc {σ : Type} {f : Int → σ → σ} {m : Nat} {i : Int} {s : σ} : itR f i (m + 1) s = f (i + m) (itR f i m s) := by
  rw [itR_add]; rfl
theorem anyR_snoc {p : Int → Bool} : ∀ {m : Nat} {i : Int}, anyR p i (m + 1) = (anyR p i m || p (i + m))
  | 0, i => by
    show (p i || false) = (false || p (i + ((0 : Nat) : Int)))
    rw [Bool.or_false, Bool.false_or, show i + ((0 : Nat) : Int) = i by omega]
  | m + 1, i => by
    show (p i || anyR p (i + 1) (m + 1)) = (p i || anyR p (i + 1) m || p (i + ((m + 1 : Nat) : Int)))
    rw [anyR_snoc, Bool.or_assoc, show i + 1 + (m : Int) = i + ((m + 1 : Nat) : Int) by omega]
theorem sumR_two {w : Int → Int} {a b : Int} {n : Nat} {i : Int} (ha : i ≤ a ∧ a < i + n) (hb : i ≤ b ∧ b < i + n) (h : a ≠ b) : sumR w i n = w a + w b + sumR (fun j => if j = b then 0 else if j = a then 0 else w j) i n := by
  rw [sumR_one ha.1 ha.2, sumR_one (w := fun j => if j = a then 0 else w j) hb.1 hb.2]
  show w a + ((if b = a then 0 else w b) + _) = _
  rw [if_neg (fun q => h q.symm)]
  omega
def pos1 (z : Int) : Int := if z ≤ 0 then 0 else 1
section BetterN
variable {W : Vw} {p q : Int}
def adC0 (W : Vw) (x : Int) : Bool := anyA W (fun a => decide (at_ W 6 a = x) && decide (at_ W 2 a = 1))
def hcl (W : Vw) (x : Int) : Bool := adC0 W x || anyS W (fun s => cov W s x && decide (at_ W 8 s = 1))
def cpN (W : Vw) (f : Int) : Int := sumP W (fun x => if fOf W x = f then bi (hcl W x) else 0)
theorem bi01 {b : Bool} : 0 ≤ bi b ∧ bi b ≤ 1 := by cases b <;> decide
theorem cpN_bd (hV : Val W) {f : Int} : 0 ≤ cpN W f ∧ cpN W f ≤ 64 := by
  have b := hV.pg
  have q := sumR_bd (w := fun x => if fOf W x = f then bi (hcl W x) else 0) (l := 0) (h := 1) (n := (pgs W).toNat) (i := 1) (fun j _ _ => by
    have := bi01 (b := hcl W j)
    show 0 ≤ (if fOf W j = f then bi (hcl W j) else 0) ∧ (if fOf W j = f then bi (hcl W j) else 0) ≤ 1
    split <;> omega)
  unfold cpN sumP
  omega
theorem bi_tt {b : Bool} : (0 < bi b) ↔ b = true := by cases b <;> simp [bi]
theorem cpN_pos (hV : Val W) {f : Int} : 0 < cpN W f ↔ ∃ x, 1 ≤ x ∧ x ≤ pgs W ∧ fOf W x = f ∧ hcl W x = true := by
  have b := hV.pg
  have e : cpN W f = sumR (fun x => if (decide (fOf W x = f) && hcl W x) = true then 1 else 0) 1 (pgs W).toNat := by
    unfold cpN sumP
    refine sumR_congr (fun j _ _ => ?_)
    show (if fOf W j = f then bi (hcl W j) else 0) = (if (decide (fOf W j = f) && hcl W j) = true then (1 : Int) else 0)
    by_cases c : fOf W j = f
    · rw [if_pos c, decide_eq_true c, Bool.true_and]; rfl
    · rw [if_neg c, decide_eq_false c, Bool.false_and, if_neg Bool.false_ne_true]
  rw [e, sumR_pos, anyR_iff]
  constructor
  · rintro ⟨j, h1, h2, h3⟩
    rw [Bool.and_eq_true, decide_eq_true_eq] at h3
    exact ⟨j, h1, by omega, h3.1, h3.2⟩
  · rintro ⟨j, h1, h2, h3, h4⟩
    exact ⟨j, h1, by omega, by rw [Bool.and_eq_true, decide_eq_true_eq]; exact ⟨h3, h4⟩⟩
theorem hcl_iff {x : Int} : hcl W x = true ↔ (∃ a, 0 ≤ a ∧ a < nA W ∧ at_ W 6 a = x ∧ at_ W 2 a = 1) ∨ (∃ s, 0 ≤ s ∧ s < nS W ∧ cov W s x = true ∧ at_ W 8 s = 1) := by
  unfold hcl adC0 anyA anyS
  rw [Bool.or_eq_true, anyR_iff, anyR_iff]
  constructor
  · rintro (⟨a, h1, h2, h3⟩ | ⟨a, h1, h2, h3⟩)
    · rw [Bool.and_eq_true, decide_eq_true_eq, decide_eq_true_eq] at h3
      exact .inl ⟨a, h1, by omega, h3.1, h3.2⟩
    · rw [Bool.and_eq_true, decide_eq_true_eq] at h3
      exact .inr ⟨a, h1, by omega, h3.1, h3.2⟩
  · rintro (⟨a, h1, h2, h3, h4⟩ | ⟨a, h1, h2, h3, h4⟩)
    · exact .inl ⟨a, h1, by omega, by rw [Bool.and_eq_true, decide_eq_true_eq, decide_eq_true_eq]; exact ⟨h3, h4⟩⟩
    · exact .inr ⟨a, h1, by omega, by rw [Bool.and_eq_true, decide_eq_true_eq]; exact ⟨h3, h4⟩⟩
theorem hasC_cp (hV : Val W) {f : Int} : hasC W f = decide (0 < cpN W f) := by
  have key : hasC W f = true ↔ 0 < cpN W f := by
    rw [cpN_pos hV]
    unfold hasC anyA anyS
    rw [Bool.or_eq_true, anyR_iff, anyR_iff]
    constructor
    · rintro (⟨a, h1, h2, h3⟩ | ⟨s, h1, h2, h3⟩)
      · rw [Bool.and_eq_true, decide_eq_true_eq] at h3
        have h4 := of_decide_eq_true h3.1
        have v := hV.2.1 a h1 (by omega)
        exact ⟨at_ W 6 a, by omega, by omega, h4.2, hcl_iff.mpr (.inl ⟨a, h1, by omega, rfl, h3.2⟩)⟩
      · rw [Bool.and_eq_true, decide_eq_true_eq] at h3
        have h4 := h3.2
        unfold hasPg anyP at h4
        rw [anyR_iff] at h4
        obtain ⟨x, x1, x2, x3⟩ := h4
        rw [Bool.and_eq_true, decide_eq_true_eq] at x3
        exact ⟨x, x1, by omega, x3.2, hcl_iff.mpr (.inr ⟨s, h1, by omega, x3.1, h3.1⟩)⟩
    · rintro ⟨x, x1, x2, x3, x4⟩
      rcases hcl_iff.mp x4 with ⟨a, h1, h2, h3, h4⟩ | ⟨s, h1, h2, h3, h4⟩
      · refine .inl ⟨a, h1, by omega, ?_⟩
        rw [Bool.and_eq_true, decide_eq_true_eq]
        exact ⟨decide_eq_true ⟨by omega, by rw [h3]; exact x3⟩, h4⟩
      · refine .inr ⟨s, h1, by omega, ?_⟩
        rw [Bool.and_eq_true, decide_eq_true_eq]
        refine ⟨h4, ?_⟩
        unfold hasPg anyP
        rw [anyR_iff]
        exact ⟨x, x1, by omega, by rw [Bool.and_eq_true, decide_eq_true_eq]; exact ⟨h3, x3⟩⟩
  by_cases c : 0 < cpN W f
  · rw [decide_eq_true c]; exact key.mpr c
  · rw [decide_eq_false c]
    cases d : hasC W f
    · rfl
    · exact absurd (key.mp d) c
def colF (W : Vw) : Int := sumR (fun f => pos1 (cpN W f)) 0 (frm W).toNat
theorem pos1_b {z : Int} : 0 ≤ pos1 z ∧ pos1 z ≤ 1 := by unfold pos1; split <;> omega
theorem colF_bd (hV : Val W) : 0 ≤ colF W ∧ colF W ≤ 8 := by
  have b := hV.1
  have e : frm W = 2 * sg W := rfl
  have q := sumR_bd (w := fun f => pos1 (cpN W f)) (l := 0) (h := 1) (n := (frm W).toNat) (i := 0) (fun j _ _ => pos1_b)
  unfold colF
  omega
theorem hcl_free (hV : Val W) {x : Int} (h : stOn W x (-1) = -1) : hcl W x = adC0 W x := by
  have z : anyS W (fun s => cov W s x && decide (at_ W 8 s = 1)) = false := by
    cases c : anyS W (fun s => cov W s x && decide (at_ W 8 s = 1))
    · rfl
    · unfold anyS at c
      rw [anyR_iff] at c
      obtain ⟨s, h1, h2, h3⟩ := c
      rcases stOn_spec hV (p := x) (but := -1) with ⟨_, g2⟩ | ⟨g1, _⟩
      · have := g2 s h1 (by omega) (by omega)
        rw [this] at h3
        exact absurd h3 Bool.false_ne_true
      · omega
  unfold hcl
  rw [z, Bool.or_false]
theorem hcl_story (hV : Val W) (hW : Wf W) {x : Int} (h : stOn W x (-1) ≠ -1) : adC0 W x = false ∧ hcl W x = decide (at_ W 8 (stOn W x (-1)) = 1) := by
  rcases stOn_spec hV (p := x) (but := -1) with ⟨g1, _⟩ | ⟨g1, g2, _, g4⟩
  · exact absurd g1 h
  · have w := hW.2 _ g1 g2 x g4
    have z : adC0 W x = false := by
      cases c : adC0 W x
      · rfl
      · unfold adC0 anyA at c
        rw [anyR_iff] at c
        obtain ⟨a, h1, h2, h3⟩ := c
        rw [Bool.and_eq_true, decide_eq_true_eq] at h3
        exact absurd h3.1 (w.1 a h1 (by omega))
    refine ⟨z, ?_⟩
    by_cases c : at_ W 8 (stOn W x (-1)) = 1
    · rw [decide_eq_true c]
      exact hcl_iff.mpr (.inr ⟨_, g1, g2, g4, c⟩)
    · rw [decide_eq_false c]
      cases d : hcl W x
      · rfl
      · unfold hcl at d
        rw [z, Bool.false_or] at d
        unfold anyS at d
        rw [anyR_iff] at d
        obtain ⟨s, h1, h2, h3⟩ := d
        rw [Bool.and_eq_true, decide_eq_true_eq] at h3
        by_cases e : s = stOn W x (-1)
        · exact absurd (e ▸ h3.2) c
        · have := w.2.2 s h1 (by omega) e
          rw [this] at h3
          exact absurd h3.1 Bool.false_ne_true
theorem hcl_ex (hV : Val W) (hp : 1 ≤ p ∧ p ≤ pgs W) (hq : 1 ≤ q ∧ q ≤ pgs W) (sp : stOn W p (-1) = -1) (sq : stOn W q (-1) = -1) {x : Int} (hx : 1 ≤ x ∧ x ≤ pgs W) : hcl (mpV W (exF p q)) x = hcl W (exF p q x) := by
  have e2 : ∀ a, at_ (mpV W (exF p q)) 2 a = at_ W 2 a := fun a => mp_ao (by decide) (by decide) a
  have ec : ∀ s y, cov (mpV W (exF p q)) s y = cov W s y := fun s y => by
    unfold cov
    rw [show at_ (mpV W (exF p q)) 11 s = at_ W 11 s from mp_ao (by decide) (by decide) s, show at_ (mpV W (exF p q)) 7 s = at_ W 7 s from mp_ao (by decide) (by decide) s]
  have nc : ∀ y, (y = p ∨ y = q) → ∀ s, 0 ≤ s → s < nS W → cov W s y = false := fun y hy s h1 h2 => by
    have hs : stOn W y (-1) = -1 := by rcases hy with rfl | rfl <;> assumption
    rcases stOn_spec hV (p := y) (but := -1) with ⟨_, g2⟩ | ⟨g1, _⟩
    · exact g2 s h1 h2 (by omega)
    · omega
  have key : hcl (mpV W (exF p q)) x = true ↔ hcl W (exF p q x) = true := by
    rw [hcl_iff, hcl_iff]
    constructor
    · rintro (⟨a, h1, h2, h3, h4⟩ | ⟨s, h1, h2, h3, h4⟩)
      · have h2' : a < nA W := h2
        rw [mpV_6 ⟨h1, h2'⟩] at h3
        rw [e2] at h4
        exact .inl ⟨a, h1, h2', by rw [← h3]; exact (exF_inv _).symm, h4⟩
      · have h2' : s < nS W := h2
        rw [ec] at h3
        rw [show at_ (mpV W (exF p q)) 8 s = at_ W 8 s from mp_ao (by decide) (by decide) s] at h4
        have n1 : x ≠ p := fun e => by rw [nc x (.inl e) s h1 h2'] at h3; exact Bool.false_ne_true h3
        have n2 : x ≠ q := fun e => by rw [nc x (.inr e) s h1 h2'] at h3; exact Bool.false_ne_true h3
        have e : exF p q x = x := by unfold exF; rw [if_neg n1, if_neg n2]
        exact .inr ⟨s, h1, h2', by rw [e]; exact h3, h4⟩
    · rintro (⟨a, h1, h2, h3, h4⟩ | ⟨s, h1, h2, h3, h4⟩)
      · refine .inl ⟨a, h1, h2, ?_, by rw [e2]; exact h4⟩
        rw [mpV_6 ⟨h1, h2⟩, h3, exF_inv]
      · have n1 : exF p q x ≠ p := fun e => by rw [nc _ (.inl e) s h1 h2] at h3; exact Bool.false_ne_true h3
        have n2 : exF p q x ≠ q := fun e => by rw [nc _ (.inr e) s h1 h2] at h3; exact Bool.false_ne_true h3
        have e : exF p q x = x := by
          unfold exF at n1 n2 ⊢
          by_cases c1 : x = p
          · rw [if_pos c1] at n2; exact absurd rfl n2
          · rw [if_neg c1] at n1 n2 ⊢
            by_cases c2 : x = q
            · rw [if_pos c2] at n1; exact absurd rfl n1
            · rw [if_neg c2]
        exact .inr ⟨s, h1, h2, by rw [ec, ← e]; exact h3, by rw [show at_ (mpV W (exF p q)) 8 s = at_ W 8 s from mp_ao (by decide) (by decide) s]; exact h4⟩
  cases c : hcl W (exF p q x)
  · cases d : hcl (mpV W (exF p q)) x
    · rfl
    · rw [key.mp d] at c; exact absurd c (by decide)
  · exact key.mpr c
theorem fOf_mp {f : Int → Int} {x : Int} : fOf (mpV W f) x = fOf W x := rfl
theorem cp_ex (hV : Val W) (hp : 1 ≤ p ∧ p ≤ pgs W) (hq : 1 ≤ q ∧ q ≤ pgs W) (hne : p ≠ q) (sp : stOn W p (-1) = -1) (sq : stOn W q (-1) = -1) (f : Int) :
    cpN (mpV W (exF p q)) f = cpN W f + (if fOf W p = f then bi (hcl W q) - bi (hcl W p) else 0) + (if fOf W q = f then bi (hcl W p) - bi (hcl W q) else 0) := by
  have b := hV.pg
  have ep : pgs (mpV W (exF p q)) = pgs W := mp_pgs
  have s1 : cpN (mpV W (exF p q)) f = sumR (fun x => if fOf W x = f then bi (hcl W (exF p q x)) else 0) 1 (pgs W).toNat := by
    unfold cpN sumP
    rw [ep]
    refine sumR_congr (fun x h1 h2 => ?_)
    show (if fOf (mpV W (exF p q)) x = f then bi (hcl (mpV W (exF p q)) x) else 0) = (if fOf W x = f then bi (hcl W (exF p q x)) else 0)
    rw [hcl_ex hV hp hq sp sq ⟨h1, by omega⟩, fOf_mp]
  have xp : exF p q p = q := by unfold exF; rw [if_pos rfl]
  have xq : exF p q q = p := by unfold exF; rw [if_neg (fun e => hne e.symm), if_pos rfl]
  rw [s1, sumR_two ⟨hp.1, by omega⟩ ⟨hq.1, by omega⟩ hne]
  unfold cpN sumP
  rw [sumR_two (w := fun x => if fOf W x = f then bi (hcl W x) else 0) ⟨hp.1, by omega⟩ ⟨hq.1, by omega⟩ hne]
  have er : sumR (fun j => if j = q then 0 else if j = p then 0 else if fOf W j = f then bi (hcl W (exF p q j)) else 0) 1 (pgs W).toNat = sumR (fun j => if j = q then 0 else if j = p then 0 else if fOf W j = f then bi (hcl W j) else 0) 1 (pgs W).toNat := by
    refine sumR_congr (fun x _ _ => ?_)
    show (if x = q then 0 else if x = p then 0 else if fOf W x = f then bi (hcl W (exF p q x)) else 0) = (if x = q then 0 else if x = p then 0 else if fOf W x = f then bi (hcl W x) else 0)
    by_cases c1 : x = q
    · rw [if_pos c1, if_pos c1]
    · rw [if_neg c1, if_neg c1]
      by_cases c2 : x = p
      · rw [if_pos c2, if_pos c2]
      · rw [if_neg c2, if_neg c2, show exF p q x = x by unfold exF; rw [if_neg c2, if_neg c1]]
  rw [er, xp, xq]
  split <;> split <;> omega
def few (W : Vw) (p q : Int) : Int := if fOf W p = fOf W q then 0 else pos1 (cpN W (fOf W p)) + pos1 (cpN W (fOf W q)) - pos1 (cpN W (fOf W p) + (bi (hcl W q) - bi (hcl W p))) - pos1 (cpN W (fOf W q) - (bi (hcl W q) - bi (hcl W p)))
theorem few_ex (hV : Val W) (hp : 1 ≤ p ∧ p ≤ pgs W) (hq : 1 ≤ q ∧ q ≤ pgs W) (hne : p ≠ q) (sp : stOn W p (-1) = -1) (sq : stOn W q (-1) = -1) : colF (mpV W (exF p q)) = colF W - few W p q := by
  have fp := fOf_b hV hp.1 hp.2
  have fq := fOf_b hV hq.1 hq.2
  have ce := cp_ex hV hp hq hne sp sq
  have s1 : colF (mpV W (exF p q)) = sumR (fun f => pos1 (cpN (mpV W (exF p q)) f)) 0 (frm W).toNat := rfl
  rw [s1]
  unfold few colF
  by_cases c : fOf W p = fOf W q
  · rw [if_pos c, Int.sub_zero]
    refine sumR_congr (fun f _ _ => ?_)
    show pos1 (cpN (mpV W (exF p q)) f) = pos1 (cpN W f)
    rw [ce f, c]
    congr 1
    split <;> omega
  · rw [if_neg c, sumR_two ⟨fp.1, by omega⟩ ⟨fq.1, by omega⟩ c, sumR_two (w := fun f => pos1 (cpN W f)) ⟨fp.1, by omega⟩ ⟨fq.1, by omega⟩ c]
    have er : sumR (fun j => if j = fOf W q then 0 else if j = fOf W p then 0 else pos1 (cpN (mpV W (exF p q)) j)) 0 (frm W).toNat = sumR (fun j => if j = fOf W q then 0 else if j = fOf W p then 0 else pos1 (cpN W j)) 0 (frm W).toNat := by
      refine sumR_congr (fun f _ _ => ?_)
      show (if f = fOf W q then 0 else if f = fOf W p then 0 else pos1 (cpN (mpV W (exF p q)) f)) = (if f = fOf W q then 0 else if f = fOf W p then 0 else pos1 (cpN W f))
      by_cases c1 : f = fOf W q
      · rw [if_pos c1, if_pos c1]
      · rw [if_neg c1, if_neg c1]
        by_cases c2 : f = fOf W p
        · rw [if_pos c2, if_pos c2]
        · rw [if_neg c2, if_neg c2, ce f, if_neg (fun e => c2 e.symm), if_neg (fun e => c1 e.symm), Int.add_zero, Int.add_zero]
    rw [er, ce (fOf W p), ce (fOf W q), if_pos rfl, if_neg (fun e => c e.symm), if_neg c, if_pos rfl, Int.add_zero, Int.add_zero]
    have e3 : cpN W (fOf W q) + (bi (hcl W p) - bi (hcl W q)) = cpN W (fOf W q) - (bi (hcl W q) - bi (hcl W p)) := by omega
    rw [e3]
    omega
theorem few_none (hV : Val W) (sp : stOn W p (-1) = -1) (sq : stOn W q (-1) = -1) (hp : 1 ≤ p) (hq : 1 ≤ q) (ap : adsO W p + adsO W q = 0) : few W p q = 0 := by
  have b := hV.1
  have z : ∀ x, (∀ a, 0 ≤ a → a < nA W → at_ W 6 a ≠ x) → adC0 W x = false := fun x h => by
    cases c : adC0 W x
    · rfl
    · unfold adC0 anyA at c
      rw [anyR_iff] at c
      obtain ⟨a, h1, h2, h3⟩ := c
      rw [Bool.and_eq_true, decide_eq_true_eq] at h3
      exact absurd h3.1 (h a h1 (by omega))
  have bd : ∀ x, 0 ≤ adsO W x ∧ (adsO W x = 0 → ∀ a, 0 ≤ a → a < nA W → at_ W 6 a ≠ x) := fun x => by
    have e : sumA W (fun a => if at_ W 6 a = x then 1 else 0) = sumR (fun a => if (decide (at_ W 6 a = x)) = true then 1 else 0) 0 (nA W).toNat := by
      unfold sumA
      refine sumR_congr (fun j _ _ => ?_)
      show (if at_ W 6 j = x then (1 : Int) else 0) = (if decide (at_ W 6 j = x) = true then 1 else 0)
      by_cases c : at_ W 6 j = x
      · rw [if_pos c, if_pos (decide_eq_true c)]
      · rw [if_neg c, if_neg (by rw [decide_eq_true_eq]; exact c)]
    have q := sumR_bd (w := fun a => if (decide (at_ W 6 a = x)) = true then (1 : Int) else 0) (l := 0) (h := 1) (n := (nA W).toNat) (i := 0) (fun j _ _ => by
      show 0 ≤ (if decide (at_ W 6 j = x) = true then (1 : Int) else 0) ∧ (if decide (at_ W 6 j = x) = true then (1 : Int) else 0) ≤ 1
      split <;> omega)
    unfold adsO
    rw [e, wr_s (by omega) (by omega)]
    refine ⟨by omega, fun e0 a h1 h2 h3 => ?_⟩
    have := (sumR_pos (p := fun a => decide (at_ W 6 a = x)) (n := (nA W).toNat) (i := 0)).mpr (anyR_iff.mpr ⟨a, h1, by omega, decide_eq_true h3⟩)
    omega
  have b1 := bd p
  have b2 := bd q
  have h1 : hcl W p = false := by rw [hcl_free hV sp]; exact z p (b1.2 (by omega))
  have h2 : hcl W q = false := by rw [hcl_free hV sq]; exact z q (b2.2 (by omega))
  unfold few
  rw [h1, h2, show bi false - bi false = 0 from rfl, Int.add_zero, Int.sub_zero]
  split <;> omega
end BetterN

