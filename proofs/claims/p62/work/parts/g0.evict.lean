/-! EVICTION: the plan with some ads lifted off -/
def nrE (W : Vw) (a p x : Int) : Bool := decide (x ≠ a ∧ 0 < at_ W 6 x ∧ at_ W 6 x / 2 = p / 2) && !prP W (at_ W 6 x)
def lfV (W : Vw) (q : Int → Bool) : Vw := fun k i => if k = 6 ∧ q (i : Int) = true then 0 else W k i
section Lift
variable {W : Vw} {q : Int → Bool} {a p : Int}
theorem lfV_at {k : Nat} {x : Int} (hk : k ≠ 6) : at_ (lfV W q) k x = at_ W k x := if_neg (fun z => hk z.1)
theorem lfV_6 {x : Int} (hx : 0 ≤ x) : at_ (lfV W q) 6 x = if q x = true then 0 else at_ W 6 x := by
  show (if (6 : Nat) = 6 ∧ q ((x.toNat : Nat) : Int) = true then 0 else W 6 x.toNat) = _
  rw [Int.toNat_of_nonneg hx]
  by_cases c : q x = true
  · rw [if_pos ⟨rfl, c⟩, if_pos c]
  · rw [if_neg (fun z => c z.2), if_neg c]; rfl
theorem lfV_k {k i : Nat} (hk : k ≠ 6) : lfV W q k i = W k i := if_neg (fun z => hk z.1)
theorem lfV_nA : nA (lfV W q) = nA W := lfV_k (by decide)
theorem lfV_nS : nS (lfV W q) = nS W := lfV_k (by decide)
theorem lfV_nB : nB (lfV W q) = nB W := lfV_k (by decide)
theorem lfV_sg : sg (lfV W q) = sg W := lfV_k (by decide)
theorem lfV_pe : pe (lfV W q) = pe W := lfV_k (by decide)
theorem lfV_tm : tm (lfV W q) = tm W := lfV_k (by decide)
theorem lfV_pgs : pgs (lfV W q) = pgs W := by unfold pgs; rw [lfV_sg, lfV_pe]
theorem lfV_fOf {x : Int} : fOf (lfV W q) x = fOf W x := by unfold fOf; rw [lfV_pe]
theorem lfV_prP {x : Int} : prP (lfV W q) x = prP W x := by unfold prP; rw [lfV_fOf, lfV_at (by decide)]
theorem lfV_coP {x : Int} : coP (lfV W q) x = coP W x := by unfold coP; rw [lfV_fOf, lfV_at (by decide)]
theorem lfV_stOn {x b : Int} : stOn (lfV W q) x b = stOn W x b := by
  unfold stOn cov
  rw [lfV_nS]
  simp only [lfV_at (W := W) (q := q) (k := 11) (by decide), lfV_at (W := W) (q := q) (k := 7) (by decide)]
theorem lfV_Val (hV : Val W) : Val (lfV W q) := by
  obtain ⟨h1, h2, h3, h4, h5⟩ := hV
  unfold Val
  rw [lfV_nA, lfV_nS, lfV_nB, lfV_sg, lfV_pe, lfV_tm, lfV_pgs]
  refine ⟨h1, fun x x0 x1 => ?_, fun x x0 x1 => ?_, fun x x0 x1 => ?_, fun x x0 x1 => ?_⟩
  · rw [lfV_at (by decide), lfV_at (by decide), lfV_at (by decide), lfV_at (by decide), lfV_at (by decide), lfV_at (by decide), lfV_6 x0]
    have v := h2 x x0 x1
    refine ⟨v.1, v.2.1, v.2.2.1, v.2.2.2.1, v.2.2.2.2.1, v.2.2.2.2.2.1, ?_⟩
    split <;> omega
  · rw [lfV_at (by decide), lfV_at (by decide), lfV_at (by decide), lfV_at (by decide), lfV_at (by decide)]
    exact h3 x x0 x1
  · rw [lfV_at (by decide), lfV_at (by decide)]
    exact h4 x x0 x1
  · rw [lfV_at (by decide), lfV_at (by decide), lfV_at (by decide)]
    exact h5 x x0 x1
theorem lfV_raw (hp : 1 ≤ p) : rawR (lfV W q) p a (-1) = rawR W p a (-1) + sumA W (fun x => if (inP W a p x && q x) = true then at_ W 0 x else 0) := by
  unfold rawR sumA sumB
  rw [lfV_nA, lfV_nB]
  have e1 : sumR (fun x => -szA (lfV W q) p a x) 0 (nA W).toNat = sumR (fun x => -szA W p a x) 0 (nA W).toNat + sumR (fun x => if (inP W a p x && q x) = true then at_ W 0 x else 0) 0 (nA W).toNat := by
    rw [← sumR_add]
    refine sumR_congr (fun x x0 x1 => ?_)
    show -szA (lfV W q) p a x = -szA W p a x + (if (inP W a p x && q x) = true then at_ W 0 x else 0)
    unfold szA inP
    rw [lfV_at (k := 0) (by decide), lfV_6 x0]
    by_cases c1 : x ≠ a ∧ at_ W 6 x = p
    · rw [decide_eq_true c1, Bool.true_and, if_pos c1]
      by_cases c2 : q x = true
      · rw [if_pos c2, if_neg (fun z => by omega), if_pos c2]; omega
      · rw [if_neg c2, if_pos c1, if_neg c2]; omega
    · rw [decide_eq_false c1, Bool.false_and, if_neg c1, if_neg Bool.false_ne_true]
      by_cases c2 : q x = true
      · rw [if_pos c2, if_neg (fun z => by omega)]; omega
      · rw [if_neg c2, if_neg c1]; omega
  have e2 : sumR (fun b => -szB (lfV W q) p (-1) b) 0 (nB W).toNat = sumR (fun b => -szB W p (-1) b) 0 (nB W).toNat := by
    refine sumR_congr (fun x x0 x1 => ?_)
    show -szB (lfV W q) p (-1) x = -szB W p (-1) x
    unfold szB
    rw [lfV_at (k := 13) (by decide), lfV_at (k := 12) (by decide)]
  rw [e1, e2]
  omega
theorem lfV_lefO (hV : Val W) (hp : 1 ≤ p) (hs : stOn W p (-1) = -1) : lefO (lfV W q) p a (-1) = lefO W p a (-1) + sumA W (fun x => if (inP W a p x && q x) = true then at_ W 0 x else 0) := by
  unfold lefO
  rw [lfV_stOn, if_pos hs, if_pos hs, room_raw hV, room_raw (lfV_Val hV), lfV_raw hp]
theorem lfV_rivl (ha : at_ W 1 a ≠ 0) {s : Int} : rivl (lfV W q) a s = false ↔ ∀ x, 0 ≤ x → x < nA W → x ≠ a → 0 < at_ W 6 x → at_ W 6 x / 2 = s → at_ W 1 x = at_ W 1 a → q x = true := by
  unfold rivl anyA
  rw [lfV_nA, lfV_at (k := 1) (by decide), decide_eq_true ha, Bool.and_true, ← Bool.not_eq_true, anyR_iff]
  constructor
  · intro h x x0 x1 h1 h2 h3 h4
    cases c : q x with
    | true => rfl
    | false =>
      refine absurd ⟨x, x0, by omega, ?_⟩ h
      rw [decide_eq_true_eq, lfV_6 x0, lfV_at (k := 1) (by decide), c, if_neg Bool.false_ne_true]
      exact ⟨h1, h2, h3, h4⟩
  · rintro h ⟨x, x0, x1, hx⟩
    rw [decide_eq_true_eq, lfV_6 x0, lfV_at (k := 1) (by decide)] at hx
    by_cases c : q x = true
    · rw [if_pos c] at hx; omega
    · rw [if_neg c] at hx
      exact c (h x x0 (by omega) hx.1 hx.2.1 hx.2.2.1 hx.2.2.2)
theorem lfV_reas (hp : 1 ≤ p ∧ p ≤ pgs W) : reas (lfV W q) a p = 0 ↔ prP W p = false ∧ at_ W 0 a ≤ lefO (lfV W q) p a (-1) ∧ ¬ (at_ W 2 a = 1 ∧ coP W p = false) ∧ onSd p (at_ W 3 a) = true ∧ rivl (lfV W q) a (p / 2) = false := by
  have e : isP (lfV W q) p = true := by unfold isP; rw [lfV_pgs]; exact decide_eq_true hp
  unfold reas
  rw [if_pos e, lfV_prP, lfV_coP, lfV_at (k := 0) (by decide), lfV_at (k := 2) (by decide), lfV_at (k := 3) (by decide)]
  by_cases c1 : prP W p = true
  · rw [if_pos c1]
    exact ⟨fun z => by omega, fun z => absurd (z.1.symm.trans c1) Bool.false_ne_true⟩
  · rw [if_neg c1]
    by_cases c2 : lefO (lfV W q) p a (-1) < at_ W 0 a
    · rw [if_pos c2]
      exact ⟨fun z => by omega, fun z => by have := z.2.1; omega⟩
    · rw [if_neg c2]
      by_cases c3 : at_ W 2 a = 1 ∧ coP W p = false
      · rw [if_pos c3]
        exact ⟨fun z => by omega, fun z => absurd c3 z.2.2.1⟩
      · rw [if_neg c3]
        by_cases c4 : onSd p (at_ W 3 a) = true
        · rw [if_pos c4]
          by_cases c5 : rivl (lfV W q) a (p / 2) = true
          · rw [if_pos c5]
            exact ⟨fun z => by omega, fun z => absurd (z.2.2.2.2.symm.trans c5) Bool.false_ne_true⟩
          · rw [if_neg c5]
            exact ⟨fun _ => ⟨Bool.eq_false_iff.mpr c1, by omega, c3, c4, Bool.eq_false_iff.mpr c5⟩, fun _ => rfl⟩
        · rw [if_neg c4]
          exact ⟨fun z => by omega, fun z => absurd z.2.2.2.1 c4⟩
def prS (W : Vw) (q : Int → Bool) : Int := sumA W (fun x => if q x = true then at_ W 4 x else 0)
def Nr_ (W : Vw) (a p : Int) (q : Int → Bool) : Prop := ∀ x, 0 ≤ x → x < nA W → q x = true → nrE W a p x = true
theorem sdR_iff {x : Int} : sdR W a p x = true ↔ (x ≠ a ∧ at_ W 6 x ≠ 0 ∧ at_ W 6 x ≠ p ∧ at_ W 6 x / 2 = p / 2) ∧ at_ W 1 a ≠ 0 ∧ at_ W 1 x = at_ W 1 a := by
  unfold sdR rvG
  rw [Bool.and_eq_true, decide_eq_true_eq, decide_eq_true_eq]
theorem inP_iff {x : Int} : inP W a p x = true ↔ x ≠ a ∧ at_ W 6 x = p := decide_eq_true_iff
theorem rvG_iff {x : Int} : rvG W a x = true ↔ at_ W 1 a ≠ 0 ∧ at_ W 1 x = at_ W 1 a := decide_eq_true_iff
/-- the page's ads in q, taken apart by rivalry -/
theorem inP_split (w : Int → Int) (h : ∀ x, 0 ≤ x → x < nA W → inP W a p x = true → rvG W a x = true → q x = true) : sumA W (fun x => if (inP W a p x && q x) = true then w x else 0) = sR2 (inP W a p) (rvG W a) w (nA W) + slM W a p q w := by
  unfold sR2 slM sumA
  rw [← sumR_add]
  refine sumR_congr (fun x x0 x1 => ?_)
  show (if (inP W a p x && q x) = true then w x else 0) = (if (inP W a p x && rvG W a x) = true then w x else 0) + (if (inP W a p x && !rvG W a x) = true then (if q x = true then w x else 0) else 0)
  have hx := h x x0 (by omega)
  cases c1 : inP W a p x with
  | false => rfl
  | true =>
    cases c2 : rvG W a x with
    | true => rw [hx c1 c2]; exact (Int.add_zero _).symm
    | false => exact (Int.zero_add _).symm
theorem ev_L1 (hG : Good W) (ha : 0 ≤ a ∧ a < nA W) (hp : 1 ≤ p ∧ p ≤ pgs W) (hq : Nr_ W a p q) (h : reas (lfV W q) a p = 0) : EvB W a p = false ∧ ∃ x, Ach W a p x ∧ sdP W a p (nA W) + x ≤ prS W q := by
  have hV := hG.1
  have va := hV.2.1 a ha.1 ha.2
  obtain ⟨h1, h2, h3, h4, h5⟩ := (lfV_reas hp).mp h
  have hs : stOn W p (-1) = -1 := by
    by_cases c : stOn W p (-1) = -1
    · exact c
    · unfold lefO at h2
      rw [lfV_stOn, if_neg c] at h2
      omega
  have rv : ∀ x, 0 ≤ x → x < nA W → x ≠ a → 0 < at_ W 6 x → at_ W 6 x / 2 = p / 2 → at_ W 1 a ≠ 0 → at_ W 1 x = at_ W 1 a → q x = true := fun x x0 x1 y1 y2 y3 y4 y5 => (lfV_rivl y4).mp h5 x x0 x1 y1 y2 y3 y5
  have rS : ∀ x, 0 ≤ x → x < nA W → sdR W a p x = true → q x = true := fun x x0 x1 hx => by
    have z := sdR_iff.mp hx
    have v := hV.2.1 x x0 x1
    exact rv x x0 x1 z.1.1 (by omega) z.1.2.2.2 z.2.1 z.2.2
  have rP : ∀ x, 0 ≤ x → x < nA W → inP W a p x = true → rvG W a x = true → q x = true := fun x x0 x1 y1 y2 => by
    have z1 := inP_iff.mp y1
    have z2 := rvG_iff.mp y2
    exact rv x x0 x1 z1.1 (by omega) (by rw [z1.2]) z2.1 z2.2
  have hB : sdB W a p = false := by
    cases c : sdB W a p with
    | false => rfl
    | true =>
      unfold sdB at c
      rw [anyR_iff] at c
      obtain ⟨x, x0, x1, hx⟩ := c
      rw [Bool.and_eq_true] at hx
      have z := hq x x0 (by omega) (rS x x0 (by omega) hx.1)
      unfold nrE at z
      rw [hx.2, Bool.and_eq_true] at z
      exact absurd z.2 (by decide)
  refine ⟨?_, sR2 (inP W a p) (rvG W a) (at_ W 4) (nA W) + slM W a p q (at_ W 4), ⟨q, ?_, rfl⟩, ?_⟩
  · unfold EvB
    rw [h1, h4, hB, decide_eq_false (show ¬ stOn W p (-1) ≠ -1 from fun z => z hs)]
    cases c1 : decide (at_ W 2 a = 1) with
    | false => rfl
    | true =>
      cases c2 : coP W p with
      | true => rfl
      | false => exact absurd ⟨of_decide_eq_true c1, c2⟩ h3
  · rw [← inP_split (at_ W 0) rP, ← lfV_lefO hV hp.1 hs]
    exact h2
  · rw [← inP_split (at_ W 4) rP]
    unfold sdP prS sumA
    rw [← sumR_add]
    refine sumR_mono (fun x x0 x1 => ?_)
    show (if sdR W a p x = true then at_ W 4 x else 0) + (if (inP W a p x && q x) = true then at_ W 4 x else 0) ≤ (if q x = true then at_ W 4 x else 0)
    have v := hV.2.1 x x0 (by omega)
    by_cases c1 : sdR W a p x = true
    · have z := sdR_iff.mp c1
      have z2 : inP W a p x = false := decide_eq_false (fun y => z.1.2.2.1 y.2)
      rw [rS x x0 (by omega) c1, z2, if_pos c1, Bool.false_and, if_neg Bool.false_ne_true, if_pos rfl]
      omega
    · rw [if_neg c1]
      cases inP W a p x <;> cases q x <;> simp <;> omega
theorem ev_L2 (hG : Good W) (ha : 0 ≤ a ∧ a < nA W) (hp : 1 ≤ p ∧ p ≤ pgs W) (hB : EvB W a p = false) {x : Int} (hx : Ach W a p x) : ∃ q, Nr_ W a p q ∧ reas (lfV W q) a p = 0 ∧ prS W q = sdP W a p (nA W) + x := by
  have hV := hG.1
  obtain ⟨sel, hs1, hs2⟩ := hx
  unfold EvB at hB
  rw [Bool.or_eq_false_iff, Bool.or_eq_false_iff, Bool.or_eq_false_iff, Bool.or_eq_false_iff] at hB
  obtain ⟨⟨⟨⟨b1, b2⟩, b3⟩, b4⟩, b5⟩ := hB
  have hs : stOn W p (-1) = -1 := by
    by_cases c : stOn W p (-1) = -1
    · exact c
    · exact absurd (decide_eq_false_iff_not.mp b4) (fun z => z c)
  have hsd : ∀ y, 0 ≤ y → y < nA W → sdR W a p y = true → prP W (at_ W 6 y) = false := fun y y0 y1 hy => by
    cases c : prP W (at_ W 6 y) with
    | false => rfl
    | true =>
      have z : sdB W a p = true := anyR_iff.mpr ⟨y, y0, by omega, by rw [hy, c]; rfl⟩
      rw [b5] at z
      cases z
  refine ⟨fun y => sdR W a p y || (inP W a p y && (rvG W a y || sel y)), fun y y0 y1 hy => ?_, ?_, ?_⟩
  · have v := hV.2.1 y y0 y1
    have hy : (sdR W a p y || (inP W a p y && (rvG W a y || sel y))) = true := hy
    unfold nrE
    rw [Bool.or_eq_true] at hy
    rcases hy with hy | hy
    · have z := sdR_iff.mp hy
      rw [hsd y y0 y1 hy, decide_eq_true (show y ≠ a ∧ 0 < at_ W 6 y ∧ at_ W 6 y / 2 = p / 2 from ⟨z.1.1, by omega, z.1.2.2.2⟩)]; rfl
    · rw [Bool.and_eq_true] at hy
      have z := inP_iff.mp hy.1
      rw [z.2, b1, decide_eq_true (show y ≠ a ∧ 0 < p ∧ p / 2 = p / 2 from ⟨z.1, by omega, rfl⟩)]; rfl
  · refine (lfV_reas hp).mpr ⟨b1, ?_, ?_, ?_, ?_⟩
    · rw [lfV_lefO hV hp.1 hs]
      have e : sumA W (fun y => if (inP W a p y && (sdR W a p y || (inP W a p y && (rvG W a y || sel y)))) = true then at_ W 0 y else 0) = sR2 (inP W a p) (rvG W a) (at_ W 0) (nA W) + slM W a p sel (at_ W 0) := by
        unfold sR2 slM sumA
        rw [← sumR_add]
        refine sumR_congr (fun y y0 y1 => ?_)
        show (if (inP W a p y && (sdR W a p y || (inP W a p y && (rvG W a y || sel y)))) = true then at_ W 0 y else 0) = (if (inP W a p y && rvG W a y) = true then at_ W 0 y else 0) + (if (inP W a p y && !rvG W a y) = true then (if sel y = true then at_ W 0 y else 0) else 0)
        cases c1 : inP W a p y with
        | false => rfl
        | true =>
          have z2 : sdR W a p y = false := by
            cases c : sdR W a p y with
            | false => rfl
            | true => exact absurd (inP_iff.mp c1).2 (sdR_iff.mp c).1.2.2.1
          rw [z2]
          cases rvG W a y <;> cases sel y <;> simp
      rw [e]
      exact hs1
    · rintro ⟨z1, z2⟩
      rw [decide_eq_true z1, z2] at b2
      exact absurd b2 (by decide)
    · cases c : onSd p (at_ W 3 a) with
      | true => rfl
      | false => rw [c] at b3; exact absurd b3 (by decide)
    · by_cases c : at_ W 1 a = 0
      · unfold rivl
        rw [lfV_at (k := 1) (by decide), decide_eq_false (fun z => z c), Bool.and_false]
      · refine (lfV_rivl c).mpr (fun y y0 y1 z1 z2 z3 z4 => ?_)
        show (sdR W a p y || (inP W a p y && (rvG W a y || sel y))) = true
        by_cases d : at_ W 6 y = p
        · rw [inP_iff.mpr ⟨z1, d⟩, rvG_iff.mpr ⟨c, z4⟩, Bool.true_or, Bool.true_and, Bool.or_true]
        · rw [sdR_iff.mpr ⟨⟨z1, by omega, d, z3⟩, c, z4⟩, Bool.true_or]
  · rw [hs2]
    unfold prS sdP sR2 slM sumA
    rw [← sumR_add, ← sumR_add]
    refine sumR_congr (fun y y0 y1 => ?_)
    show (if (sdR W a p y || (inP W a p y && (rvG W a y || sel y))) = true then at_ W 4 y else 0) = (if sdR W a p y = true then at_ W 4 y else 0) + ((if (inP W a p y && rvG W a y) = true then at_ W 4 y else 0) + (if (inP W a p y && !rvG W a y) = true then (if sel y = true then at_ W 4 y else 0) else 0))
    cases c1 : inP W a p y with
    | false => cases sdR W a p y <;> simp
    | true =>
      have z2 : sdR W a p y = false := by
        cases c : sdR W a p y with
        | false => rfl
        | true => exact absurd (inP_iff.mp c1).2 (sdR_iff.mp c).1.2.2.1
      rw [z2]
      cases rvG W a y <;> cases sel y <;> simp
/-- what the law finds is what the class must find -/
theorem ev_law (hG : Good W) (ha : 0 ≤ a ∧ a < nA W) (hp : 1 ≤ p ∧ p ≤ pgs W) {v : Int}
    (h : (v = -1 ∧ ∀ q, Nr_ W a p q → reas (lfV W q) a p ≠ 0) ∨ (∃ q, Nr_ W a p q ∧ reas (lfV W q) a p = 0 ∧ v = prS W q ∧ ∀ q', Nr_ W a p q' → reas (lfV W q') a p = 0 → v ≤ prS W q')) : EvV W a p v := by
  rcases h with ⟨h1, h2⟩ | ⟨q, h1, h2, h3, h4⟩
  · cases c : EvB W a p with
    | true => exact .inl ⟨c, h1⟩
    | false =>
      refine .inr ⟨c, .inl ⟨h1, fun x hx => ?_⟩⟩
      obtain ⟨q, q1, q2, -⟩ := ev_L2 hG ha hp c hx
      exact h2 q q1 q2
  · obtain ⟨c, x, hx, hle⟩ := ev_L1 hG ha hp h1 h2
    refine .inr ⟨c, .inr ⟨x, hx, fun y hy => ?_, ?_⟩⟩
    · obtain ⟨q', q1, q2, q3⟩ := ev_L2 hG ha hp c hy
      have := h4 q' q1 q2
      omega
    · obtain ⟨q', q1, q2, q3⟩ := ev_L2 hG ha hp c hx
      have := h4 q' q1 q2
      omega
end Lift
