/-! MATCHING: the law's search, depth first -/
def RowB (L : List PC) (r n : Nat) (f : Nat → Bool) : Prop := ∃ vs, hp L r = some (102, vs) ∧ vs.length = n ∧ ∀ w : Nat, w < n → vs[w]? = some (V (bi (f w)))
section RowsB
variable {L K K1 : List PC} {r n : Nat} {f : Nat → Bool}
theorem bi_inR {b : Bool} : inR (bi b) := by cases b <;> exact inRk rfl
theorem RowB.at (h : RowB K r n f) {w : Int} (hw : 0 ≤ w ∧ w < n) : ald K 2 r w = some (bi (f w.toNat)) := by
  obtain ⟨vs, h1, h2, h3⟩ := h
  exact ald_s (t := 2) h1 hw.1 (h3 w.toNat (by omega)) bi_inR
theorem RowB.put (h : RowB K r n f) {w : Int} (hw : 0 ≤ w ∧ w < n) : ∃ K1, ast K 102 r w (V 1) = some K1 ∧ RowB K1 r n (fun j => f j || decide (j = w.toNat)) ∧ ∃ c, W1 K K1 r c := by
  obtain ⟨vs, h1, h2, h3⟩ := h
  obtain ⟨K1, e, w1⟩ := ast_s h1 hw.1 (by omega) (V 1)
  refine ⟨K1, e, ⟨_, w1.at, by rw [List.length_set]; exact h2, fun j hj => ?_⟩, _, w1⟩
  show _ = some (V (bi (f j || decide (j = w.toNat))))
  rw [List.getElem?_set]
  by_cases c : w.toNat = j
  · rw [if_pos c, if_pos (by omega), decide_eq_true c.symm, Bool.or_true]; rfl
  · rw [if_neg c, decide_eq_false (show ¬ j = w.toNat from fun q => c q.symm), Bool.or_false]
    exact h3 j hj
theorem RowB.w1 (h : RowB K r n f) {r' : Nat} {c : PC} (hw : W1 K K1 r' c) (hne : r ≠ r') : RowB K1 r n f := by
  obtain ⟨vs, h1, h2, h3⟩ := h
  exact ⟨vs, by rw [hw.ne hne]; exact h1, h2, h3⟩
theorem RowB.sf0 (h : RowB K r n f) (hs : Sf F0_ K K1) : RowB K1 r n f := by
  obtain ⟨vs, h1, h2⟩ := h
  exact ⟨vs, hs.at0 h1, h2⟩
theorem RowB.new {m : Nat} (hL : K.length < 900000000) : N1 K (K ++ [(102, List.replicate m (.int 0))]) (nCell + K.length) (102, List.replicate m (.int 0)) ∧ RowB (K ++ [(102, List.replicate m (.int 0))]) (nCell + K.length) m (fun _ => false) := by
  have n1 := N1.of (L := K) (c := (102, List.replicate m (Value.int 0))) hL
  refine ⟨n1, _, n1.at, List.length_replicate, fun w hw => ?_⟩
  rw [List.getElem?_replicate, if_pos hw]
  rfl
end RowsB
def MtQ (W : Vw) (w : Nat → Int) (Q A : Int → Bool) : Prop := (∀ p : Int, 1 ≤ p → p ≤ pgs W → Q p = false → w p.toNat = -1 ∨ (A (w p.toNat) = true ∧ adjW W (w p.toNat) p = true)) ∧ (∀ p p' : Int, 1 ≤ p → p ≤ pgs W → 1 ≤ p' → p' ≤ pgs W → Q p = false → Q p' = false → w p.toNat = w p'.toNat → w p.toNat ≠ -1 → p = p') ∧ ∀ a : Int, 0 ≤ a → a < nA W → A a = true → ∃ p : Int, (1 ≤ p ∧ p ≤ pgs W) ∧ Q p = false ∧ w p.toNat = a
def WokJ (W : Vw) (w : Nat → Int) : Prop := ∀ q : Int, 1 ≤ q → q ≤ pgs W → -1 ≤ w q.toNat ∧ w q.toNat < nA W
def unI (W : Vw) (s : Nat → Bool) : Int := sumR (fun p => if s p.toNat = true then 0 else 1) 1 (pgs W).toNat
/-- what is closed under the way on -/
def ClJ (W : Vw) (w : Nat → Int) (s s' : Nat → Bool) : Prop := ∀ q : Int, 1 ≤ q → q ≤ pgs W → s' q.toNat = true → s q.toNat = false → 0 ≤ w q.toNat ∧ ∀ q2 : Int, 1 ≤ q2 → q2 ≤ pgs W → adjW W (w q.toNat) q2 = true → s' q2.toNat = true
def PostJ (W : Vw) (w w' : Nat → Int) (s s' : Nat → Bool) (Q A : Int → Bool) (ad : Int) (b : Bool) : Prop := (∀ q, s q = true → s' q = true) ∧ ((b = true ∧ WokJ W w' ∧ MtQ W w' Q (fun x => A x || decide (x = ad))) ∨ (b = false ∧ w' = w ∧ (∀ q : Int, 1 ≤ q → q ≤ pgs W → adjW W ad q = true → s' q.toNat = true) ∧ ClJ W w s s'))
def RcJ : Type := Nat → Int → Nat → Nat → St → List PC → Option ((Bool × LZ) × Nat × Nat)
def JnC (rc : Nat → Int → Nat → Nat → St → List PC → Option ((Bool × LZ) × Nat × Nat)) (L0 : List PC) (P : PA) (W : Vw) (c2 c3 : Nat) (d : Int) : Prop := ∀ (S : St) (K : List PC) (ad : Int) (w : Nat → Int) (s : Nat → Bool) (Q A : Int → Bool), Sf F0_ L0 K → RowI K c2 65 w → RowB K c3 65 s → (0 ≤ ad ∧ ad < nA W) → unI W s < d → WokJ W w → MtQ W w Q A → A ad = false → (∀ q : Int, 1 ≤ q → q ≤ pgs W → Q q = true → s q.toNat = true) →
  ∃ b K' w' s', rc (pT P) ad c2 c3 S K = some ((b, (S, K')), 0, 0) ∧ Sf F0_ L0 K' ∧ K'.length = K.length ∧ RowI K' c2 65 w' ∧ RowB K' c3 65 s' ∧ PostJ W w w' s s' Q A ad b
section Joins
variable {S : St} {L0 K : List PC} {P : PA} {W : Vw} {w w' : Nat → Int} {s s' : Nat → Bool} {Q A : Int → Bool} {ad : Int}
theorem unI_nn : 0 ≤ unI W s := by
  have q := sumR_bd (w := fun p : Int => if s p.toNat = true then (0 : Int) else 1) (l := 0) (h := 1) (n := (pgs W).toNat) (i := 1) (fun j _ _ => by
    show 0 ≤ (if s j.toNat = true then (0 : Int) else 1) ∧ (if s j.toNat = true then (0 : Int) else 1) ≤ 1
    split <;> omega)
  unfold unI
  omega
theorem unI_le : unI W s ≤ (pgs W).toNat := by
  have q := sumR_bd (w := fun p : Int => if s p.toNat = true then (0 : Int) else 1) (l := 0) (h := 1) (n := (pgs W).toNat) (i := 1) (fun j _ _ => by
    show 0 ≤ (if s j.toNat = true then (0 : Int) else 1) ∧ (if s j.toNat = true then (0 : Int) else 1) ≤ 1
    split <;> omega)
  unfold unI
  omega
theorem unI_mono (h : ∀ q, s q = true → s' q = true) : unI W s' ≤ unI W s := by
  refine sumR_mono (fun j _ _ => ?_)
  show (if s' j.toNat = true then (0 : Int) else 1) ≤ (if s j.toNat = true then (0 : Int) else 1)
  by_cases c : s j.toNat = true
  · rw [if_pos c, if_pos (h _ c)]; exact Int.le_refl _
  · rw [if_neg c]; split <;> omega
theorem unI_put {p : Int} (hp : 1 ≤ p ∧ p ≤ pgs W) (h : s p.toNat = false) : unI W (fun j => s j || decide (j = p.toNat)) + 1 ≤ unI W s := by
  refine sumR_strict (x := p) (fun j _ _ => ?_) hp.1 (by omega) ?_
  · show (if (s j.toNat || decide (j.toNat = p.toNat)) = true then (0 : Int) else 1) ≤ (if s j.toNat = true then (0 : Int) else 1)
    by_cases c : s j.toNat = true
    · rw [if_pos c, c]; exact Int.le_refl _
    · rw [if_neg c]; split <;> omega
  · show (if (s p.toNat || decide (p.toNat = p.toNat)) = true then (0 : Int) else 1) + 1 ≤ (if s p.toNat = true then (0 : Int) else 1)
    rw [decide_eq_true rfl, Bool.or_true, h]
    decide
/-- one page given to the ad -/
theorem MtQ.give {p : Int} (hp : 1 ≤ p ∧ p ≤ pgs W) (had : 0 ≤ ad ∧ ad < nA W) (hQ : Q p = false) (hA : A ad = false) (ha : adjW W ad p = true) (h : MtQ W w (fun q => Q q || decide (q = p)) A) : MtQ W (fun j => if j = p.toNat then ad else w j) Q (fun x => A x || decide (x = ad)) := by
  obtain ⟨h1, h2, h3⟩ := h
  have ne : ∀ q : Int, 1 ≤ q → q ≠ p → (if q.toNat = p.toNat then ad else w q.toNat) = w q.toNat := fun q q1 q2 => if_neg (by omega)
  have off : ∀ q : Int, Q q = false → q ≠ p → (Q q || decide (q = p)) = false := fun q q1 q2 => by rw [q1, decide_eq_false q2]; rfl
  refine ⟨fun q q1 q2 q3 => ?_, fun q q' q1 q2 q3 q4 q5 q6 q7 q8 => ?_, fun a a1 a2 a3 => ?_⟩
  · show (if q.toNat = p.toNat then ad else w q.toNat) = -1 ∨ ((A (if q.toNat = p.toNat then ad else w q.toNat) || decide ((if q.toNat = p.toNat then ad else w q.toNat) = ad)) = true ∧ adjW W (if q.toNat = p.toNat then ad else w q.toNat) q = true)
    by_cases c : q = p
    · rw [c, if_pos rfl, decide_eq_true rfl, Bool.or_true]
      exact .inr ⟨rfl, ha⟩
    · rw [ne q q1 c]
      rcases h1 q q1 q2 (off q q3 c) with z | z
      · exact .inl z
      · exact .inr ⟨by rw [z.1]; rfl, z.2⟩
  · have q7 : (if q.toNat = p.toNat then ad else w q.toNat) = (if q'.toNat = p.toNat then ad else w q'.toNat) := q7
    have q8 : (if q.toNat = p.toNat then ad else w q.toNat) ≠ -1 := q8
    by_cases c : q = p
    · by_cases c' : q' = p
      · omega
      · rw [ne q' q3 c', c, if_pos rfl] at q7
        rcases h1 q' q3 q4 (off q' q6 c') with z | z
        · omega
        · rw [← q7, hA] at z
          exact absurd z.1 Bool.false_ne_true
    · rw [ne q q1 c] at q7 q8
      by_cases c' : q' = p
      · rw [c', if_pos rfl] at q7
        rcases h1 q q1 q2 (off q q5 c) with z | z
        · omega
        · rw [q7, hA] at z
          exact absurd z.1 Bool.false_ne_true
      · rw [ne q' q3 c'] at q7
        exact h2 q q' q1 q2 q3 q4 (off q q5 c) (off q' q6 c') q7 q8
  · have a3 : (A a || decide (a = ad)) = true := a3
    by_cases c : a = ad
    · exact ⟨p, hp, hQ, (if_pos rfl).trans c.symm⟩
    · rw [decide_eq_false c, Bool.or_false] at a3
      obtain ⟨q, q1, q2, q3⟩ := h3 a a1 a2 a3
      have q2 : (Q q || decide (q = p)) = false := q2
      rw [Bool.or_eq_false_iff, decide_eq_false_iff_not] at q2
      exact ⟨q, q1, q2.1, (ne q q1.1 q2.2).trans q3⟩
/-- a page taken out -/
theorem MtQ.out {p : Int} (hp : 1 ≤ p ∧ p ≤ pgs W) (hQ : Q p = false) (h : MtQ W w Q A) : (w p.toNat = -1 → MtQ W w (fun q => Q q || decide (q = p)) A) ∧ (w p.toNat ≠ -1 → MtQ W w (fun q => Q q || decide (q = p)) (fun x => A x && !decide (x = w p.toNat))) := by
  obtain ⟨h1, h2, h3⟩ := h
  have on : ∀ q : Int, (Q q || decide (q = p)) = false → Q q = false ∧ q ≠ p := fun q hq => by
    rw [Bool.or_eq_false_iff, decide_eq_false_iff_not] at hq
    exact hq
  have off : ∀ q : Int, Q q = false → q ≠ p → (Q q || decide (q = p)) = false := fun q q1 q2 => by rw [q1, decide_eq_false q2]; rfl
  refine ⟨fun hw => ⟨fun q q1 q2 q3 => h1 q q1 q2 (on q q3).1, fun q q' q1 q2 q3 q4 q5 q6 => h2 q q' q1 q2 q3 q4 (on q q5).1 (on q' q6).1, fun a a1 a2 a3 => ?_⟩, fun hw => ⟨fun q q1 q2 q3 => ?_, fun q q' q1 q2 q3 q4 q5 q6 => h2 q q' q1 q2 q3 q4 (on q q5).1 (on q' q6).1, fun a a1 a2 a3 => ?_⟩⟩
  · obtain ⟨q, q1, q2, q3⟩ := h3 a a1 a2 a3
    exact ⟨q, q1, off q q2 (fun e => by rw [e] at q3; omega), q3⟩
  · have z := on q q3
    rcases h1 q q1 q2 z.1 with y | y
    · exact .inl y
    · refine .inr ⟨?_, y.2⟩
      show (A (w q.toNat) && !decide (w q.toNat = w p.toNat)) = true
      by_cases c : w q.toNat = w p.toNat
      · exact absurd (h2 q p q1 q2 hp.1 hp.2 z.1 hQ c (by omega)) z.2
      · rw [y.1, decide_eq_false c]; rfl
  · have a3 : (A a && !decide (a = w p.toNat)) = true := a3
    rw [Bool.and_eq_true] at a3
    have a4 : a ≠ w p.toNat := fun e => by
      rw [decide_eq_true e] at a3
      exact absurd a3.2 (by decide)
    obtain ⟨q, q1, q2, q3⟩ := h3 a a1 a2 a3.1
    exact ⟨q, q1, off q q2 (fun e => by rw [e] at q3; omega), q3⟩
theorem MtQ.congr {A' : Int → Bool} (h : MtQ W w Q A) (e : ∀ x, A x = A' x) : MtQ W w Q A' := by
  have : A = A' := funext e
  rw [← this]; exact h
end Joins
