/-! LISTS: put in between, taken out, emptied -/
def insN (xs : List Nat) (j x : Nat) : List Nat := xs.take j ++ x :: xs.drop j
theorem insN_len {xs : List Nat} {j x : Nat} (hj : j ≤ xs.length) : (insN xs j x).length = xs.length + 1 := by
  unfold insN
  rw [List.length_append, List.length_cons, List.length_take, List.length_drop]
  omega
theorem ins_get {vs : List Value} {xs : List Nat} {x n j : Nat} (hn : xs.length = n) (hl : n < vs.length) (hj : j ≤ n) (h : ∀ (i y : Nat), xs[i]? = some y → vs[i]? = some (Value.ref y)) : ∀ (i y : Nat), (insN xs j x)[i]? = some y → ((cpL vs vs j (j + 1) (n - j)).set j (Value.ref x))[i]? = some (Value.ref y) := by
  intro i y hi
  have hil := (List.getElem?_eq_some_iff.mp hi).1
  rw [insN_len (by omega)] at hil
  have hlt : (xs.take j).length = j := by rw [List.length_take]; omega
  unfold insN at hi
  by_cases c1 : i < j
  · rw [List.getElem?_append_left (by omega), List.getElem?_take_of_lt c1] at hi
    rw [List.getElem?_set, if_neg (by omega), cpL_get (by omega), if_neg (by omega), gd_of (h _ _ hi)]
  · rw [List.getElem?_append_right (by omega), hlt] at hi
    by_cases c2 : i = j
    · subst c2
      rw [Nat.sub_self] at hi
      cases hi
      rw [List.getElem?_set, if_pos rfl, if_pos (by rw [cpL_len]; omega)]
    · obtain ⟨k, hk⟩ : ∃ k, i = j + 1 + k := ⟨i - j - 1, by omega⟩
      rw [show i - j = k + 1 by omega, List.getElem?_cons_succ, List.getElem?_drop] at hi
      rw [List.getElem?_set, if_neg (by omega), cpL_get (by omega), if_pos (by omega), show j + (i - (j + 1)) = j + k by omega, gd_of (h _ _ hi)]
section Lists2
variable {S : St} {L L' : List PC} {a r x : Nat} {m : Int} {cp : Nat} {xs : List Nat}
theorem okE_103 {c : PC} {y : Nat} {vs : List Value} (h : hp L r = some (103, vs)) (hw : W1 L L' r c) (hy : okE L (Value.ref y) = true) : okE L' (Value.ref y) = true := by
  rw [okE_hp (hw.ne ?_)]
  · exact hy
  · rintro rfl
    rw [okE_13 h (by decide)] at hy
    cases hy
theorem k_insT {n j : Nat} {vs : List Value} (h1 : hp L a = some (13, [Value.ref r, V n, V m])) (h2 : hp L r = some (103, vs)) (hn : xs.length = n) (hl : n < vs.length) (hv : ∀ (i y : Nat), xs[i]? = some y → vs[i]? = some (Value.ref y)) (hj : j ≤ n) (hx : ∀ y ∈ xs, okE L (Value.ref y) = true) (hok : okE L (Value.ref x) = true) :
    ∃ L1 L2 L3, cpQ L r (j : Int) r ((j : Int) + 1) ((n : Int) - j) = some L1 ∧ okE L1 (Value.ref x) = true ∧ ast L1 103 r (j : Int) (Value.ref x) = some L2 ∧ pf L2 a 13 1 (V ((n : Int) + 1)) = some L3 ∧ L3.length = L.length ∧ ∃ ws, ws.length = vs.length ∧ (∀ (i y : Nat), (insN xs j x)[i]? = some y → ws[i]? = some (Value.ref y)) ∧ ∀ b, hp L3 b = if b = a then some (13, [Value.ref r, V ((n : Int) + 1), V m]) else if b = r then some (103, ws) else hp L b := by
  have e1 : ((j : Int)).toNat = j := by omega
  have e2 : ((j : Int) + 1).toNat = j + 1 := by omega
  have e3 : ((n : Int) - j).toNat = n - j := by omega
  obtain ⟨L1, f1, w1⟩ := cpQ_s (x := (j : Int)) (y := (j : Int) + 1) (z := (n : Int) - j) h2 h2 (by omega) (by omega) (by omega) (by omega) (by omega) (fun t ht => by
    have hxt : xs[j + t]? = some (xs[j + t]'(by omega)) := List.getElem?_eq_getElem _
    rw [e1, gd_of (hv _ _ hxt)]
    exact hx _ (List.mem_of_getElem? hxt))
  rw [e1, e2, e3] at w1
  have har : a ≠ r := hp_ne h1 h2 (by decide)
  obtain ⟨L2, f2, w2⟩ := ast_s w1.at (i := (j : Int)) (by omega) (by rw [cpL_len]; omega) (Value.ref x)
  have h3 : hp L2 a = some (13, [Value.ref r, V n, V m]) := by rw [w2.ne har, w1.ne har]; exact h1
  obtain ⟨L3, f3, w3⟩ := pf_s h3 (f := 1) (Nat.le_of_ble_eq_true rfl) (V ((n : Int) + 1))
  refine ⟨L1, L2, L3, f1, okE_103 h2 w1 hok, f2, f3, by rw [w3.1, w2.1, w1.1], (cpL vs vs j (j + 1) (n - j)).set j (Value.ref x), by rw [List.length_set, cpL_len], ins_get hn hl hj hv, fun b => ?_⟩
  rw [w3.2]
  by_cases c : b = a
  · rw [if_pos c, if_pos c]; rfl
  · rw [if_neg c, if_neg c, w2.2]
    by_cases d : b = r
    · rw [if_pos d, if_pos d, e1]
    · rw [if_neg d, if_neg d, w1.ne d]
theorem k_insR {j : Nat} (h : LsH L a r m (rmN xs.length) xs) (hok : okE L (Value.ref x) = true) (hx : ∀ y ∈ xs, okE L (Value.ref y) = true) (hn : xs.length < 49) (hj : j ≤ xs.length) (hL : L.length < 800000000) : ∃ L1 r1 m1, gn_AL_add3 a (j : Int) (Value.ref x) S L = some ((S, L1), gcn (xs.length + 1) - gcn xs.length, gsn (xs.length + 1) - gsn xs.length) ∧ LsH L1 a r1 m1 (rmN (xs.length + 1)) (insN xs j x) ∧ L1.length = L.length + (gcn (xs.length + 1) - gcn xs.length) ∧ (r1 = r ∨ r1 = nCell + L.length) ∧ ∀ b, b ≠ a → b ≠ r1 → hp L1 b = hp L b := by
  have q := rm_s xs.length hn
  have b2 := h.1.2
  obtain ⟨L3, e3, w3⟩ := pf_s h.2.1 (f := 2) (Nat.le_of_ble_eq_true rfl) (V (wr (m + 1)))
  have hno : ∀ y, okE L (Value.ref y) = true → y ≠ a := fun y hy e => by
    subst e
    rw [okE_13 h.2.1 (by decide)] at hy; cases hy
  have h3 : LsH L3 a r (wr (m + 1)) (rmN xs.length) xs := by
    refine ⟨⟨wr_in _, h.1.2⟩, w3.at, ?_⟩
    rcases h.2.2 with q | ⟨vs, h1, h2⟩
    · exact .inl q
    · exact .inr ⟨vs, by rw [w3.ne (by rintro rfl; rw [h.2.1] at h1; cases h1)]; exact h1, h2⟩
  have ok3 : ∀ y, okE L (Value.ref y) = true → okE L3 (Value.ref y) = true := fun y hy => by rw [okE_hp (w3.ne (hno y hy))]; exact hy
  have hal : alm L3 r = some ((rmN xs.length : Nat) : Int) := by
    rcases h3.2.2 with ⟨e, e0⟩ | ⟨vs, h1, ⟨h2, _⟩, _⟩
    · rw [e, alm_e, e0]; rfl
    · rw [alm_s h1 (by decide) (by decide) (by omega), h2]
  have i1 : wr ((xs.length : Int) - j) = (xs.length : Int) - j := wr_s (by omega) (by omega)
  have i2 : wr ((j : Int) + 1) = (j : Int) + 1 := wr_s (by omega) (by omega)
  have i3 : wr ((xs.length : Int) + 1) = (xs.length : Int) + 1 := wr_s (by omega) (by omega)
  have hrc : gn_AL_rangeCheckForAdd a (j : Int) S L = some () := by
    unfold gn_AL_rangeCheckForAdd
    rw [h.size, bnO_s, if_neg (by omega), if_pos (by omega)]
  rcases q.2.2.2 with ⟨q1, q2, q3, q4⟩ | ⟨q1, q2, q3, q4, q5⟩
  · rcases h3.2.2 with ⟨_, e0⟩ | ⟨vs, h1, ⟨h2, h20⟩, hv⟩
    · omega
    obtain ⟨L4, L5, L6, f1, f2, f3, f4, f5, ws, g1, g2, g3⟩ := k_insT (x := x) (j := j) h3.2.1 h1 rfl (by omega) hv hj (fun y hy => ok3 y (hx y hy)) (ok3 x hok)
    have har : r ≠ a := (hp_ne h3.2.1 h1 (by decide)).symm
    refine ⟨L6, r, wr (m + 1), ?_, ⟨⟨wr_in _, by rw [insN_len hj, q2]; omega, by rw [q2]; omega⟩, by rw [g3, if_pos rfl, insN_len hj]; rfl, .inr ⟨ws, by rw [g3, if_neg har, if_pos rfl], ⟨by rw [g1, h2, q2], by omega⟩, g2⟩⟩, by rw [f5, w3.1, q4]; omega, .inl rfl, fun b hb hr => by rw [g3, if_neg hb, if_neg hr, w3.ne hb]⟩
    rw [q3, q4, Nat.sub_self, Nat.sub_self]
    unfold gn_AL_add3
    rw [if_pos h.k, hrc, bnO_s, h.md, bnO_s, nm_x, e3, bnO_s, h3.size, bnO_s, h3.row, bnO_s, rfB_r, hal, bnO_s, if_neg (by omega), nm_x, nm_x, i1, i2, f1, bnO_s, if_pos f2, f3, bnO_s, nm_x, i3, f4, bnO_s]
  · obtain ⟨L4, vs, e4, l4, p1, p2, p3, p4, p5⟩ := k_grow (S := S) h3 (fun y hy => ok3 y (hx y hy)) q1 q2 (by rw [w3.1]; omega)
    rw [w3.1] at e4 l4 p1 p2 p5
    have hnw : ∀ y, okE L (Value.ref y) = true → okE L4 (Value.ref y) = true := fun y hy => by
      have hyn : y ≠ nCell + L.length := by
        rintro rfl
        rw [okE_new (by omega)] at hy; cases hy
      rw [okE_hp ((p5 y (hno y hy) hyn).trans (w3.ne (hno y hy)))]; exact hy
    have hgr : xs.length < nxc (rmN xs.length) ∧ nxc (rmN xs.length) ≤ 200 := by unfold nxc; split <;> (try split) <;> omega
    obtain ⟨L5, L6, L7, f1, f2, f3, f4, f5, ws, g1, g2, g3⟩ := k_insT (x := x) (j := j) p1 p2 rfl (by omega) p4 hj (fun y hy => hnw y (hx y hy)) (hnw x hok)
    have har : nCell + L.length ≠ a := (hp_ne p1 p2 (by decide)).symm
    refine ⟨L7, nCell + L.length, wr (m + 1), ?_, ⟨⟨wr_in _, by rw [insN_len hj, q3]; omega, by rw [q3]; omega⟩, by rw [g3, if_pos rfl, insN_len hj]; rfl, .inr ⟨ws, by rw [g3, if_neg har, if_pos rfl], ⟨by rw [g1, p3, q3], by rw [q3]; omega⟩, g2⟩⟩, by rw [f5, l4, q5]; omega, .inr rfl, fun b hb hr => by rw [g3, if_neg hb, if_neg hr, p5 b hb hr, w3.ne hb]⟩
    rw [q4, q5, Nat.add_sub_cancel_left, Nat.add_sub_cancel_left]
    unfold gn_AL_add3
    rw [if_pos h.k, hrc, bnO_s, h.md, bnO_s, nm_x, e3, bnO_s, h3.size, bnO_s, h3.row, bnO_s, rfB_r, hal, bnO_s, if_pos (by omega), if_pos h3.k, e4, bnO_s]
    show adC 1 (nxc (rmN xs.length)) (nm (wr ((xs.length : Int) - j)) fun v19 => nm (wr ((j : Int) + 1)) fun v20 => rfB (Value.ref (nCell + L.length)) fun r21 => bnO (cpQ L4 r21 (j : Int) r21 v20 v19) _) = _
    rw [nm_x, nm_x, rfB_r, i1, i2, f1, bnO_s, if_pos f2, f3, bnO_s, nm_x, i3, f4, bnO_s]
    show some ((S, L7), 0 + 1, 0 + nxc (rmN xs.length)) = _
    rw [Nat.zero_add, Nat.zero_add]
/-- taken out -/
theorem k_remove {i y : Nat} (h : LsH L a r m cp xs) (hy : xs[i]? = some y) (hx : ∀ y ∈ xs, okE L (Value.ref y) = true) : ∃ L1 m1, gn_AL_remove a (i : Int) S L = some ((Value.ref y, (S, L1)), 0, 0) ∧ LsH L1 a r m1 cp (xs.eraseIdx i) ∧ L1.length = L.length ∧ ∀ b, b ≠ a → b ≠ r → hp L1 b = hp L b := by
  have hil := (List.getElem?_eq_some_iff.mp hy).1
  have b2 := h.1.2
  rcases h.2.2 with ⟨_, e⟩ | ⟨vs, h1, ⟨h2, h20⟩, hv⟩
  · omega
  have hlr : (xs.eraseIdx i).length = xs.length - 1 := List.length_eraseIdx_of_lt hil
  have har : a ≠ r := hp_ne h.2.1 h1 (by decide)
  obtain ⟨L3, e3, w3⟩ := pf_s h.2.1 (f := 2) (Nat.le_of_ble_eq_true rfl) (V (wr (m + 1)))
  have a3 : hp L3 a = some (13, [Value.ref r, V xs.length, V (wr (m + 1))]) := w3.at
  have r3 : hp L3 r = some (103, vs) := by rw [w3.ne har.symm]; exact h1
  have i1 : wr ((xs.length : Int) - 1) = (xs.length : Int) - 1 := wr_s (by omega) (by omega)
  have hnat : ((xs.length : Int) - 1).toNat = xs.length - 1 := by omega
  have hno : ∀ y, okE L (Value.ref y) = true → y ≠ a := fun y hy e => by
    subst e
    rw [okE_13 h.2.1 (by decide)] at hy; cases hy
  have pre : ∀ (o : Option ((LZ) × Nat × Nat)), gn_AL_fastRemove a r (i : Int) S L = o → gn_AL_remove a (i : Int) S L = bnO o fun p6 => adC p6.2.1 p6.2.2 (some ((Value.ref y, (p6.1.1, p6.1.2)), 0, 0)) := fun o ho => by
    unfold gn_AL_remove gn_Objs_checkIndex gn_Preconditions_checkIndex
    rw [h.size, bnO_s, if_neg (by omega), if_pos (by omega), bnO_s, bnO_s, h.row, bnO_s, rfB_r, h.el (i := (i : Int)) (by omega) (by rw [Int.toNat_natCast]; exact hy), bnO_s, if_pos h.k, ho]
  by_cases c : i = xs.length - 1
  · obtain ⟨L4, e4, w4⟩ := pf_s a3 (f := 1) (Nat.le_of_ble_eq_true rfl) (V ((xs.length : Int) - 1))
    have r4 : hp L4 r = some (103, vs) := by rw [w4.ne har.symm]; exact r3
    obtain ⟨L5, e5, w5⟩ := ast_s r4 (i := (xs.length : Int) - 1) (by omega) (by omega) Value.null
    refine ⟨L5, wr (m + 1), ?_, ⟨⟨wr_in _, by omega, h.1.2.2⟩, ?_, .inr ⟨_, w5.at, ⟨by rw [List.length_set]; exact h2, h20⟩, fun k z hz => ?_⟩⟩, by rw [w5.1, w4.1, w3.1], fun b hb hr => by rw [w5.ne hr, w4.ne hb, w3.ne hb]⟩
    · rw [pre (some ((S, L5), 0, 0)) (by
        unfold gn_AL_fastRemove
        rw [h.md, bnO_s, nm_x, e3, bnO_s, gfI_s a3 (f := 1) (z := (xs.length : Int)) rfl (len_in (by omega)), bnO_s, nm_x, nm_x, i1, if_pos (by omega), e4, bnO_s, if_pos (show okE L4 Value.null = true from rfl), e5, bnO_s])]
      rfl
    · rw [w5.ne har, w4.at, hlr, show ((xs.length - 1 : Nat) : Int) = (xs.length : Int) - 1 by omega]
      rfl
    · have hk := (List.getElem?_eq_some_iff.mp hz).1
      rw [List.getElem?_eraseIdx, if_pos (by omega)] at hz
      rw [List.getElem?_set, if_neg (by omega)]
      exact hv k z hz
  · obtain ⟨L4, e4, w4⟩ := cpQ_s (x := (i : Int) + 1) (y := (i : Int)) (z := (xs.length : Int) - 1 - i) r3 r3 (by omega) (by omega) (by omega) (by omega) (by omega) (fun t ht => by
      have hxt : xs[i + 1 + t]? = some (xs[i + 1 + t]'(by omega)) := List.getElem?_eq_getElem _
      rw [show ((i : Int) + 1).toNat = i + 1 by omega, gd_of (hv _ _ hxt), okE_hp (w3.ne (hno _ (hx _ (List.mem_of_getElem? hxt))))]
      exact hx _ (List.mem_of_getElem? hxt))
    rw [show ((i : Int) + 1).toNat = i + 1 by omega, show ((i : Int)).toNat = i by omega, show ((xs.length : Int) - 1 - i).toNat = xs.length - 1 - i by omega] at w4
    have a4 : hp L4 a = some (13, [Value.ref r, V xs.length, V (wr (m + 1))]) := by rw [w4.ne har]; exact a3
    obtain ⟨L5, e5, w5⟩ := pf_s a4 (f := 1) (Nat.le_of_ble_eq_true rfl) (V ((xs.length : Int) - 1))
    have r5 : hp L5 r = some (103, cpL vs vs (i + 1) i (xs.length - 1 - i)) := by rw [w5.ne har.symm]; exact w4.at
    obtain ⟨L6, e6, w6⟩ := ast_s r5 (i := (xs.length : Int) - 1) (by omega) (by rw [cpL_len]; omega) Value.null
    have i2 : wr ((xs.length : Int) - 1 - i) = (xs.length : Int) - 1 - i := wr_s (by omega) (by omega)
    have i3 : wr ((i : Int) + 1) = (i : Int) + 1 := wr_s (by omega) (by omega)
    refine ⟨L6, wr (m + 1), ?_, ⟨⟨wr_in _, by omega, h.1.2.2⟩, ?_, .inr ⟨_, w6.at, ⟨by rw [List.length_set, cpL_len]; exact h2, h20⟩, fun k z hz => ?_⟩⟩, by rw [w6.1, w5.1, w4.1, w3.1], fun b hb hr => by rw [w6.ne hr, w5.ne hb, w4.ne hr, w3.ne hb]⟩
    · rw [pre (some ((S, L6), 0, 0)) (by
        unfold gn_AL_fastRemove
        rw [h.md, bnO_s, nm_x, e3, bnO_s, gfI_s a3 (f := 1) (z := (xs.length : Int)) rfl (len_in (by omega)), bnO_s, nm_x, nm_x, i1, if_neg (by omega), nm_x, nm_x, i2, i3, e4, bnO_s, e5, bnO_s, if_pos (show okE L5 Value.null = true from rfl), e6, bnO_s])]
      rfl
    · rw [w6.ne har, w5.at, hlr, show ((xs.length - 1 : Nat) : Int) = (xs.length : Int) - 1 by omega]
      rfl
    · have hk := (List.getElem?_eq_some_iff.mp hz).1
      rw [List.getElem?_eraseIdx] at hz
      rw [List.getElem?_set, if_neg (by omega), cpL_get (by omega)]
      by_cases d : k < i
      · rw [if_pos d] at hz
        rw [if_neg (by omega), gd_of (hv k z hz)]
      · rw [if_neg d] at hz
        rw [if_pos (by omega), show i + 1 + (k - i) = k + 1 by omega, gd_of (hv _ z hz)]
end Lists2
