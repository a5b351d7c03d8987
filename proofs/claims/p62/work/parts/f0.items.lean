/-! LATE ITEMS: their order -/
/-- as many members as numbers that fit -/
theorem len_cnt {q : Nat → Bool} : ∀ (n : Nat) (l : List Nat), l.Nodup → (∀ x, x ∈ l ↔ x < n ∧ q x = true) → (l.length : Int) = sumR (fun y => if q y.toNat = true then 1 else 0) 0 n
  | 0, l, _, h => by
    have e : l = [] := List.eq_nil_iff_forall_not_mem.mpr (fun x hx => by have := ((h x).mp hx).1; omega)
    rw [e]; rfl
  | n + 1, l, hn, h => by
    rw [sumR_snoc, Int.zero_add, Int.toNat_natCast]
    by_cases c : q n = true
    · have hm : n ∈ l := (h n).mpr ⟨by omega, c⟩
      have ih := len_cnt (q := q) n (l.erase n) (hn.erase n) (fun x => by
        rw [hn.mem_erase_iff, h]
        constructor
        · rintro ⟨h1, h2, h3⟩; exact ⟨by omega, h3⟩
        · rintro ⟨h1, h2⟩; exact ⟨by omega, by omega, h2⟩)
      have e := List.length_erase_of_mem hm
      have p := List.length_pos_of_mem hm
      rw [if_pos c, ← ih]
      omega
    · have ih := len_cnt (q := q) n l hn (fun x => by
        rw [h]
        constructor
        · rintro ⟨h1, h2⟩
          refine ⟨?_, h2⟩
          by_cases e : x = n
          · subst e; exact absurd h2 c
          · omega
        · rintro ⟨h1, h2⟩; exact ⟨by omega, h2⟩)
      rw [if_neg c, ih, Int.add_zero]
def SrtI (W : Vw) (xs : List Nat) (i : Nat) : Prop := (∀ x ∈ xs, x < i ∧ ltI W x = true) ∧ xs.Pairwise (fun x y : Nat => lkI W x < lkI W y) ∧ ∀ x : Nat, x < i → ltI W x = true → x ∈ xs
theorem srtI_ins {W : Vw} {xs : List Nat} {i j : Nat} (h : SrtI W xs i) (h6 : ltI W i = true) (hi : i < 110) (h1 : ∀ x ∈ xs.take j, rdy W x ≤ rdy W i) (h2 : ∀ y ∈ xs.drop j, rdy W i < rdy W y) : SrtI W (insN xs j i) (i + 1) := by
  obtain ⟨a, b, c⟩ := h
  have e : xs.take j ++ xs.drop j = xs := List.take_append_drop j xs
  rw [← e, List.pairwise_append] at b
  obtain ⟨b1, b2, b3⟩ := b
  have mt : ∀ x, x ∈ xs.take j → x ∈ xs := fun x hx => by rw [← e]; exact List.mem_append_left _ hx
  have md : ∀ x, x ∈ xs.drop j → x ∈ xs := fun x hx => by rw [← e]; exact List.mem_append_right _ hx
  have ai : ∀ x ∈ xs.take j, lkI W x < lkI W i := fun x hx => by
    have q := h1 x hx
    have q2 := (a x (mt x hx)).1
    unfold lkI
    omega
  have id' : ∀ y ∈ xs.drop j, lkI W i < lkI W y := fun y hy => by
    have q := h2 y hy
    have q2 := (a y (md y hy)).1
    unfold lkI
    omega
  refine ⟨fun x hx => ?_, ?_, fun x hx h6x => ?_⟩
  · unfold insN at hx
    rw [List.mem_append, List.mem_cons] at hx
    rcases hx with hx | rfl | hx
    · have q := a x (mt x hx)
      exact ⟨by omega, q.2⟩
    · exact ⟨by omega, h6⟩
    · have q := a x (md x hx)
      exact ⟨by omega, q.2⟩
  · unfold insN
    rw [List.pairwise_append, List.pairwise_cons]
    exact ⟨b1, ⟨id', b2⟩, fun x hx y hy => by
      rcases List.mem_cons.mp hy with rfl | hy
      · exact ai x hx
      · exact b3 x hx y hy⟩
  · unfold insN
    rw [List.mem_append, List.mem_cons]
    by_cases c1 : x = i
    · exact .inr (.inl c1)
    · have q := c x (by omega) h6x
      rw [← e, List.mem_append] at q
      rcases q with q | q
      · exact .inl q
      · exact .inr (.inr q)
theorem SrtI.skip {W : Vw} {xs : List Nat} {i : Nat} (h : SrtI W xs i) (h6 : ltI W i = false) : SrtI W xs (i + 1) := ⟨fun x hx => ⟨by have := (h.1 x hx).1; omega, (h.1 x hx).2⟩, h.2.1, fun x hx hl => by
  by_cases e : x = i
  · subst e; rw [h6] at hl; cases hl
  · exact h.2.2 x (by omega) hl⟩
/-- the place of each is its rank -/
theorem SrtI.rank {W : Vw} {xs : List Nat} (h : SrtI W xs 110) {k x : Nat} (hk : xs[k]? = some x) : ctK (ltI W) (lkI W) 0 110 (lkI W x) = k := by
  obtain ⟨a, b, c⟩ := h
  have hkl := (List.getElem?_eq_some_iff.mp hk).1
  have e : xs.take k ++ xs.drop k = xs := List.take_append_drop k xs
  have ed : xs.drop k = x :: xs.drop (k + 1) := by
    rw [List.drop_eq_getElem_cons hkl]
    congr 1
    exact (List.getElem?_eq_some_iff.mp hk).2
  rw [← e, List.pairwise_append] at b
  obtain ⟨b1, b2, b3⟩ := b
  rw [ed, List.pairwise_cons] at b2
  have hnd : (xs.take k).Nodup := b1.imp (fun {x y} hlt e => by subst e; exact absurd hlt (Int.lt_irrefl _))
  have q := len_cnt (q := fun y : Nat => ltI W (y : Int) && decide (lkI W (y : Int) < lkI W (x : Int))) 110 (xs.take k) hnd (fun y => by
    rw [Bool.and_eq_true, decide_eq_true_eq]
    constructor
    · intro hy
      have m : y ∈ xs := by rw [← e]; exact List.mem_append_left _ hy
      exact ⟨(a y m).1, (a y m).2, b3 y hy x (by rw [ed]; exact List.mem_cons.mpr (.inl rfl))⟩
    · rintro ⟨h1, h2, h3⟩
      have m := c y h1 h2
      rw [← e, List.mem_append] at m
      rcases m with m | m
      · exact m
      · rw [ed, List.mem_cons] at m
        rcases m with rfl | m
        · exact absurd h3 (Int.lt_irrefl _)
        · have := b2.1 y m
          omega)
  rw [List.length_take, Nat.min_eq_left (Nat.le_of_lt hkl)] at q
  rw [q]
  unfold ctK
  refine sumR_congr (fun j h1 h2 => ?_)
  show (if ltI W j = true ∧ lkI W j < lkI W x then (1 : Int) else 0) = (if (ltI W ((j.toNat : Nat) : Int) && decide (lkI W ((j.toNat : Nat) : Int) < lkI W x)) = true then 1 else 0)
  rw [Int.toNat_of_nonneg h1]
  by_cases c1 : ltI W j = true ∧ lkI W j < lkI W x
  · rw [if_pos c1, c1.1, decide_eq_true c1.2]; rfl
  · rw [if_neg c1, if_neg (fun z => c1 (by rw [Bool.and_eq_true, decide_eq_true_eq] at z; exact z))]
theorem SrtI.val {W : Vw} (hV : Val W) {xs : List Nat} (h : SrtI W xs 110) {k x : Nat} (hk : xs[k]? = some x) : liN W k = x := by
  have m := h.1 x (List.mem_of_getElem? hk)
  exact li_is hV (by omega) (by omega) m.2 (h.rank hk)
theorem SrtI.none {W : Vw} {xs : List Nat} (h : SrtI W xs 110) {k : Int} (hk : k < 0 ∨ (xs.length : Int) ≤ k) : liN W k = -1 := by
  refine li_none (fun x h0 h1 h2 e => ?_)
  have hx : ((x.toNat : Nat) : Int) = x := Int.toNat_of_nonneg h0
  have m := h.2.2 x.toNat (by omega) (by rw [hx]; exact h2)
  obtain ⟨j, hj⟩ := List.mem_iff_getElem?.mp m
  have q := h.rank hj
  have l := (List.getElem?_eq_some_iff.mp hj).1
  rw [hx, e] at q
  omega
