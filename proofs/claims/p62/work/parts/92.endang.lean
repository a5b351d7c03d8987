/-! what a form's closing takes away -/
section Endang
variable {W V V' : Vw} {a f p i z : Int}
theorem wr_c {x y k : Int} (h : wr x = wr y) : wr (x + k) = wr (y + k) := by rw [← wr_add (a := x), h, wr_add]
theorem laA_sm (h : Sm W V) : laA V a = laA W a := by unfold laA; rw [h.2.1, Sm_at h (by decide) (by decide) (by decide) (by decide)]
theorem adS_e (ha : 0 ≤ a) : (∀ x, 0 ≤ x → at_ (adS p a W) 6 x = if x = a ∧ (decide (at_ W 6 a = p) && laA W a) = true then 0 else at_ W 6 x) ∧ wr (lo_ (adS p a W)) = wr (lo_ W + (if (decide (at_ W 6 a = p) && laA W a) = true then at_ W 4 a else 0)) := by
  have eU : (∀ x, 0 ≤ x → at_ (adU W a) 6 x = if x = a then 0 else at_ W 6 x) ∧ lo_ (adU W a) = wr (lo_ W + at_ W 4 a) := by
    unfold adU
    refine ⟨fun x hx => ?_, lo_lo⟩
    rw [at_upn (by decide), at_upe hx ha]
  by_cases c1 : at_ W 6 a = p
  · by_cases c2 : laA W a = true
    · have e : (decide (at_ W 6 a = p) && laA W a) = true := by rw [decide_eq_true c1, c2]; rfl
      rw [e]
      have k : (∀ x, 0 ≤ x → at_ (adS p a W) 6 x = at_ (adU W a) 6 x) ∧ lo_ (adS p a W) = lo_ (adU W a) := by
        unfold adS
        rw [if_pos ⟨c1, c2⟩]
        split
        · exact ⟨fun _ _ => rfl, rfl⟩
        · exact ⟨fun x _ => at_upn (by decide), lo_up (by decide)⟩
      refine ⟨fun x hx => ?_, ?_⟩
      · rw [k.1 x hx, eU.1 x hx]
        by_cases z : x = a
        · rw [if_pos z, if_pos ⟨z, rfl⟩]
        · rw [if_neg z, if_neg (fun w => z w.1)]
      · rw [k.2, eU.2, wr_wr, if_pos rfl]
    · have e : (decide (at_ W 6 a = p) && laA W a) = false := by rw [Bool.eq_false_iff.mpr c2, Bool.and_false]
      have es : adS p a W = W := by unfold adS; rw [if_neg (fun w => c2 w.2)]
      rw [e, es]
      exact ⟨fun x _ => by rw [if_neg (fun w => Bool.false_ne_true w.2)], by rw [if_neg Bool.false_ne_true, Int.add_zero]⟩
  · have e : (decide (at_ W 6 a = p) && laA W a) = false := by rw [decide_eq_false c1, Bool.false_and]
    have es : adS p a W = W := by unfold adS; rw [if_neg (fun w => c1 w.1)]
    rw [e, es]
    exact ⟨fun x _ => by rw [if_neg (fun w => Bool.false_ne_true w.2)], by rw [if_neg Bool.false_ne_true, Int.add_zero]⟩
theorem adN_e (hi : 0 ≤ i) : (∀ x, 0 ≤ x → at_ (adN W p i) 6 x = if x < i ∧ (decide (at_ W 6 x = p) && laA W x) = true then 0 else at_ W 6 x) ∧ wr (lo_ (adN W p i)) = wr (lo_ W + sumR (fun x => if (decide (at_ W 6 x = p) && laA W x) = true then at_ W 4 x else 0) 0 i.toNat) := by
  have q := itR_inv (f := adS p) (n := i.toNat) (i := 0) (s := W) (I := fun j V => Sm W V ∧ (∀ x, 0 ≤ x → at_ V 6 x = if x < j ∧ (decide (at_ W 6 x = p) && laA W x) = true then 0 else at_ W 6 x) ∧ wr (lo_ V) = wr (lo_ W + sumR (fun x => if (decide (at_ W 6 x = p) && laA W x) = true then at_ W 4 x else 0) 0 j.toNat)) (fun j V j1 j2 h => by
    obtain ⟨h1, h2, h3⟩ := h
    have e := adS_e (W := V) (p := p) (a := j) j1
    have e6 : at_ V 6 j = at_ W 6 j := by rw [h2 j j1, if_neg (fun w => by omega)]
    rw [e6, laA_sm h1, Sm_at h1 (by decide) (by decide) (by decide) (by decide)] at e
    refine ⟨h1.tr adS_sm, fun x hx => ?_, ?_⟩
    · rw [e.1 x hx, h2 x hx]
      by_cases z : x = j
      · rw [z]
        by_cases y : (decide (at_ W 6 j = p) && laA W j) = true
        · rw [if_pos ⟨rfl, y⟩, if_pos ⟨by omega, y⟩]
        · rw [if_neg (fun w => y w.2), if_neg (fun w => y w.2), if_neg (fun w => y w.2)]
      · rw [if_neg (fun w => z w.1)]
        by_cases y : x < j ∧ (decide (at_ W 6 x = p) && laA W x) = true
        · rw [if_pos y, if_pos ⟨by omega, y.2⟩]
        · rw [if_neg y, if_neg (fun w => y ⟨by omega, w.2⟩)]
    · rw [e.2, wr_c h3, show (j + 1).toNat = j.toNat + 1 by omega, sumR_snoc, show (0 : Int) + (j.toNat : Int) = j by omega, Int.add_assoc]) ⟨Sm.refl, fun x hx => by rw [if_neg (fun w => by omega)], by
      show wr (lo_ W) = wr (lo_ W + 0)
      rw [Int.add_zero]⟩
  rw [show (0 : Int) + (i.toNat : Int) = i by omega] at q
  exact q.2
def lsB (W : Vw) (f p a : Int) : Bool := decide (1 ≤ at_ W 6 a ∧ at_ W 6 a < p ∧ fOf W (at_ W 6 a) = f) && laA W a
theorem pgS_e (hA : 0 ≤ nA W) : (∀ x, 0 ≤ x → x < nA W → at_ (pgS f p W) 6 x = if (decide (at_ W 6 x = p ∧ fOf W p = f) && laA W x) = true then 0 else at_ W 6 x) ∧ wr (lo_ (pgS f p W)) = wr (lo_ W + sumA W (fun x => if (decide (at_ W 6 x = p ∧ fOf W p = f) && laA W x) = true then at_ W 4 x else 0)) := by
  by_cases c : fOf W p = f
  · have e : pgS f p W = adN W p (nA W) := by unfold pgS; rw [if_pos c]
    have q := adN_e (W := W) (p := p) (i := nA W) hA
    have k : ∀ x, decide (at_ W 6 x = p ∧ fOf W p = f) = decide (at_ W 6 x = p) := fun x => by
      by_cases z : at_ W 6 x = p
      · rw [decide_eq_true z, decide_eq_true ⟨z, c⟩]
      · rw [decide_eq_false z, decide_eq_false (fun w => z w.1)]
    rw [e]
    refine ⟨fun x hx hn => ?_, ?_⟩
    · rw [q.1 x hx, k]
      by_cases z : (decide (at_ W 6 x = p) && laA W x) = true
      · rw [if_pos ⟨hn, z⟩, if_pos z]
      · rw [if_neg (fun w => z w.2), if_neg z]
    · rw [q.2]
      have e2 : sumA W (fun x => if (decide (at_ W 6 x = p ∧ fOf W p = f) && laA W x) = true then at_ W 4 x else 0) = sumR (fun x => if (decide (at_ W 6 x = p) && laA W x) = true then at_ W 4 x else 0) 0 (nA W).toNat := by
        unfold sumA
        refine sumR_congr (fun j _ _ => ?_)
        show (if (decide (at_ W 6 j = p ∧ fOf W p = f) && laA W j) = true then at_ W 4 j else 0) = _
        rw [k]
      rw [e2]
  · have e : pgS f p W = W := by unfold pgS; rw [if_neg c]
    have k : ∀ x, (decide (at_ W 6 x = p ∧ fOf W p = f) && laA W x) = false := fun x => by rw [decide_eq_false (fun w => c w.2), Bool.false_and]
    rw [e]
    refine ⟨fun x _ _ => by rw [k, if_neg Bool.false_ne_true], ?_⟩
    have e2 : sumA W (fun x => if (decide (at_ W 6 x = p ∧ fOf W p = f) && laA W x) = true then at_ W 4 x else 0) = 0 := by
      unfold sumA
      refine sumR_0 (fun j _ _ => ?_)
      show (if (decide (at_ W 6 j = p ∧ fOf W p = f) && laA W j) = true then at_ W 4 j else 0) = 0
      rw [k, if_neg Bool.false_ne_true]
    rw [e2, Int.add_zero]
theorem pgN_e (hA : 0 ≤ nA W) (hi : 1 ≤ i) : (∀ x, 0 ≤ x → x < nA W → at_ (pgN W f i) 6 x = if lsB W f i x = true then 0 else at_ W 6 x) ∧ wr (lo_ (pgN W f i)) = wr (lo_ W + sumA W (fun x => if lsB W f i x = true then at_ W 4 x else 0)) := by
  have q := itR_inv (f := pgS f) (n := (i - 1).toNat) (i := 1) (s := W) (I := fun j V => Sm W V ∧ (∀ x, 0 ≤ x → x < nA W → at_ V 6 x = if lsB W f j x = true then 0 else at_ W 6 x) ∧ wr (lo_ V) = wr (lo_ W + sumA W (fun x => if lsB W f j x = true then at_ W 4 x else 0))) (fun j V j1 j2 h => by
    obtain ⟨h1, h2, h3⟩ := h
    have e := pgS_e (W := V) (f := f) (p := j) (by rw [h1.1.1]; exact hA)
    have cnd : ∀ x, 0 ≤ x → x < nA W → (decide (at_ V 6 x = j ∧ fOf V j = f) && laA V x) = (decide (at_ W 6 x = j ∧ fOf W (at_ W 6 x) = f) && laA W x) := fun x x1 x2 => by
      rw [laA_sm h1, Sm_fOf h1, h2 x x1 x2]
      cases el : laA W x with
      | false => rw [Bool.and_false, Bool.and_false]
      | true =>
        rw [Bool.and_true, Bool.and_true]
        by_cases y : lsB W f j x = true
        · rw [if_pos y]
          unfold lsB at y
          have y1 := of_decide_eq_true ((Bool.and_eq_true _ _).mp y).1
          rw [decide_eq_false (fun w => by omega), decide_eq_false (fun w => by omega)]
        · rw [if_neg y]
          by_cases z : at_ W 6 x = j
          · rw [z]
          · rw [decide_eq_false (fun w => z w.1), decide_eq_false (fun w => z w.1)]
    have nx : ∀ x, lsB W f (j + 1) x = (lsB W f j x || (decide (at_ W 6 x = j ∧ fOf W (at_ W 6 x) = f) && laA W x)) := fun x => by
      unfold lsB
      cases laA W x with
      | false => rw [Bool.and_false, Bool.and_false, Bool.and_false]; rfl
      | true =>
        rw [Bool.and_true, Bool.and_true, Bool.and_true]
        by_cases z : at_ W 6 x = j
        · by_cases y : fOf W (at_ W 6 x) = f
          · rw [decide_eq_true (p := 1 ≤ at_ W 6 x ∧ at_ W 6 x < j + 1 ∧ fOf W (at_ W 6 x) = f) ⟨by omega, by omega, y⟩, decide_eq_true (p := at_ W 6 x = j ∧ fOf W (at_ W 6 x) = f) ⟨z, y⟩, Bool.or_true]
          · rw [decide_eq_false (p := 1 ≤ at_ W 6 x ∧ at_ W 6 x < j + 1 ∧ fOf W (at_ W 6 x) = f) (fun w => y w.2.2), decide_eq_false (p := at_ W 6 x = j ∧ fOf W (at_ W 6 x) = f) (fun w => y w.2), decide_eq_false (p := 1 ≤ at_ W 6 x ∧ at_ W 6 x < j ∧ fOf W (at_ W 6 x) = f) (fun w => y w.2.2)]
            rfl
        · rw [decide_eq_false (p := at_ W 6 x = j ∧ fOf W (at_ W 6 x) = f) (fun w => z w.1), Bool.or_false]
          by_cases y : 1 ≤ at_ W 6 x ∧ at_ W 6 x < j ∧ fOf W (at_ W 6 x) = f
          · rw [decide_eq_true y, decide_eq_true ⟨y.1, by omega, y.2.2⟩]
          · rw [decide_eq_false y, decide_eq_false (fun w => y ⟨w.1, by omega, w.2.2⟩)]
    have dj : ∀ x, lsB W f j x = true → (decide (at_ W 6 x = j ∧ fOf W (at_ W 6 x) = f) && laA W x) = false := fun x y => by
      unfold lsB at y
      have y1 := of_decide_eq_true ((Bool.and_eq_true _ _).mp y).1
      rw [decide_eq_false (fun w => by omega), Bool.false_and]
    refine ⟨h1.tr pgS_sm, fun x x1 x2 => ?_, ?_⟩
    · rw [e.1 x x1 (by rw [h1.1.1]; exact x2), cnd x x1 x2, h2 x x1 x2, nx]
      cases lsB W f j x with
      | false =>
        rw [Bool.false_or, if_neg (c := false = true) Bool.false_ne_true]
      | true =>
        rw [Bool.true_or, if_pos (c := true = true) rfl]
        split <;> rfl
    · rw [e.2, wr_c h3, Int.add_assoc]
      congr 2
      unfold sumA
      rw [h1.1.1, ← sumR_add]
      refine sumR_congr (fun x x1 x2 => ?_)
      show (if lsB W f j x = true then at_ W 4 x else 0) + (if (decide (at_ V 6 x = j ∧ fOf V j = f) && laA V x) = true then at_ V 4 x else 0) = if lsB W f (j + 1) x = true then at_ W 4 x else 0
      rw [cnd x x1 (by omega), nx, Sm_at h1 (by decide) (by decide) (by decide) (by decide)]
      by_cases y : lsB W f j x = true
      · rw [dj x y, y, if_pos rfl, if_neg Bool.false_ne_true, Int.add_zero]
        rfl
      · rw [Bool.eq_false_iff.mpr y, Bool.false_or, if_neg (c := false = true) Bool.false_ne_true, Int.zero_add]) ⟨Sm.refl, fun x _ _ => by
      have : lsB W f 1 x = false := by unfold lsB; rw [decide_eq_false (fun w => by omega), Bool.false_and]
      rw [this, if_neg Bool.false_ne_true], by
      have e : sumA W (fun x => if lsB W f 1 x = true then at_ W 4 x else 0) = 0 := by
        unfold sumA
        refine sumR_0 (fun x _ _ => ?_)
        have : lsB W f 1 x = false := by unfold lsB; rw [decide_eq_false (fun w => by omega), Bool.false_and]
        show (if lsB W f 1 x = true then at_ W 4 x else 0) = 0
        rw [this, if_neg Bool.false_ne_true]
      rw [e, Int.add_zero]⟩
  rw [show (1 : Int) + ((i - 1).toNat : Int) = i by omega] at q
  exact q.2
theorem stN_11 {k : Nat} (hk : k ≠ 11) : stN W f i k = W k := by
  unfold stN
  exact itR_inv (f := stS f) (n := i.toNat) (i := 0) (s := W) (I := fun _ V => V k = W k) (fun j V _ _ h => by
    show stS f j V k = W k
    unfold stS
    split
    · rw [← h]; funext x; exact if_neg (fun w => hk w.1)
    · exact h) rfl
theorem clW_e (hV : Val W) : (∀ x, 0 ≤ x → x < nA W → at_ (clW f W) 6 x = if lsB W f (pgs W + 1) x = true then 0 else at_ W 6 x) ∧ wr (lo_ (clW f W)) = wr (lo_ W + sumA W (fun x => if lsB W f (pgs W + 1) x = true then at_ W 4 x else 0)) := by
  have b := hV.z
  have s1 := stN_sm (W := W) (f := f) (i := nS W)
  have e6 : ∀ x, at_ (stN W f (nS W)) 6 x = at_ W 6 x := fun x => by unfold at_; rw [stN_11 (by decide)]
  have q := pgN_e (W := stN W f (nS W)) (f := f) (i := pgs W + 1) (by rw [s1.1.1]; omega) (by omega)
  have el : ∀ x, lsB (stN W f (nS W)) f (pgs W + 1) x = lsB W f (pgs W + 1) x := fun x => by unfold lsB; rw [e6, Sm_fOf s1, laA_sm s1]
  have elo : lo_ (stN W f (nS W)) = lo_ W := by unfold lo_; rw [stN_11 (by decide)]
  have e4 : ∀ x, at_ (stN W f (nS W)) 4 x = at_ W 4 x := fun x => by unfold at_; rw [stN_11 (by decide)]
  unfold clW
  refine ⟨fun x x1 x2 => ?_, ?_⟩
  · rw [at_upn (by decide), q.1 x x1 (by rw [s1.1.1]; exact x2), el, e6]
  · rw [lo_up (by decide), q.2, elo]
    unfold sumA
    simp only [s1.1.1, el, e4]
end Endang

