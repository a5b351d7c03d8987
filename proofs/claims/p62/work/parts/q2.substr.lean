/-! PIECES OF A TEXT -/
section Subs
variable {S : St} {L L0 L1 K K1 : List PC} {t a b n m x y z r : Nat} {bs ts : List Int} {f g : Nat → Int}
theorem cpB_x (h1 : LkY L a n f) (h2 : RowY L b m g) (hz : x + z ≤ n) (hy : z ≤ m) (hf : ∀ w, w < n → 0 ≤ f w ∧ f w ≤ 127) : ∃ L1, cpB L a (x : Int) b 0 (z : Int) = some L1 ∧ RowY L1 b m (fun w => if w < z then f (x + w) else g w) ∧ ∃ c, W1 L L1 b c := by
  obtain ⟨va, ⟨-, a2, -⟩, a4, a5⟩ := h1
  obtain ⟨vb, b1, b2, b3⟩ := h2
  have w1 := W1.of (c := (101, cpL va vb x 0 z)) b1
  refine ⟨_, ?_, ⟨_, w1.at, by rw [cpL_len]; exact b2, fun w hw => ?_⟩, _, w1⟩
  · unfold cpB
    rw [a2, b1]
    have e : ((0 : Int)).toNat = 0 := rfl
    refine if_pos ⟨rfl, by omega, Int.le_refl _, by omega, by rw [Int.toNat_natCast, Int.toNat_natCast]; omega, by rw [e, Int.toNat_natCast]; show 0 + z ≤ vb.length; omega, List.all_eq_true.mpr (fun j hj => ?_)⟩
    have hj : j < z := by have := List.mem_range.mp hj; omega
    rw [Int.toNat_natCast, gd_of (a5 (x + j) (by omega))]
    exact byte_B (hf (x + j) (by omega))
  · show _ = some (V (if w < z then f (x + w) else g w))
    rw [cpL_get (by omega)]
    by_cases c : w < z
    · rw [if_pos c, if_pos (by omega), Nat.sub_zero, gd_of (a5 (x + w) (by omega))]
    · rw [if_neg c, if_neg (by omega), gd_of (b3 w hw)]
theorem Asc.slice (h : Asc bs) : Asc ((bs.drop a).take n) := fun w hw => by
  have l : ((bs.drop a).take n).length = min n (bs.length - a) := by rw [List.length_take, List.length_drop]
  have e : ((bs.drop a).take n).getD w 0 = bs.getD (a + w) 0 := by
    rw [List.getD_eq_getElem?_getD, List.getD_eq_getElem?_getD, List.getElem?_take, if_pos (by omega), List.getElem?_drop]
  rw [e]
  exact h (a + w) (by omega)
theorem slice_get {w : Nat} (hw : w < n) : ((bs.drop a).take n).getD w 0 = bs.getD (a + w) 0 := by
  rw [List.getD_eq_getElem?_getD, List.getD_eq_getElem?_getD, List.getElem?_take, if_pos hw, List.getElem?_drop]
theorem slice_len (h : a + n ≤ bs.length) : ((bs.drop a).take n).length = n := by rw [List.length_take, List.length_drop]; omega
/-- a piece of a row of bytes, copied -/
theorem k_cpR (hy : LkY L r bs.length (fun w => bs.getD w 0)) (ha : Asc bs) (hl : bs.length < 5000) (h : a + n ≤ bs.length) (hn : 0 < n) (hna : ¬ (a = 0 ∧ n = bs.length)) (hL : L.length < 800000000) :
    ∃ L1, gn_Ars_copyOfRange r (a : Int) (((a + n : Nat)) : Int) S L = some ((Value.ref (nCell + L.length), (S, L1)), 1, n) ∧ RowY L1 (nCell + L.length) n (fun w => ((bs.drop a).take n).getD w 0) ∧ Sf F0_ L L1 ∧ L1.length = L.length + 1 := by
  obtain ⟨n1, z1⟩ := RowY.new (K := L) (m := n) (by omega)
  have yl := hy.sf0 n1.sf0
  have el := hy.len_ (by omega)
  have el1 := yl.len_ (by omega)
  obtain ⟨L1, e1, z2, cc, w1⟩ := cpB_x (x := a) (z := n) yl z1 h (Nat.le_refl _) (fun w hw => ha w hw)
  have emin : i_min ((bs.length : Int) - (a : Int)) ((n : Nat) : Int) = ((n : Nat) : Int) := by unfold i_min; split <;> omega
  have ebyte : gn_Ars_copyOfRangeByte r (a : Int) (((a + n : Nat)) : Int) S L = some ((Value.ref (nCell + L.length), (S, L1)), 1, n) := by
    unfold gn_Ars_copyOfRangeByte gn_Ars_checkLength
    rw [if_pos (by omega), bnO_s, nm_x, show (((a + n : Nat)) : Int) - (a : Int) = ((n : Nat) : Int) by omega, wr_s (z := ((n : Nat) : Int)) (by omega) (by omega), if_pos (by omega), if_pos (by omega), Int.toNat_natCast, nw_x, el1, bnO_s, nm_x, wr_s (z := (bs.length : Int) - (a : Int)) (by omega) (by omega), emin, e1, bnO_s]
    show some ((Value.ref (nCell + L.length), (S, L1)), 0 + 1, 0 + n) = _
    rw [Nat.zero_add, Nat.zero_add]
  refine ⟨L1, ?_, z2.eq (fun w hw => ?_), (Sf.refl.n n1).w w1 (.inr (Nat.le_refl _)), by rw [w1.1, n1.2.1]⟩
  · unfold gn_Ars_copyOfRange
    by_cases c : (a : Int) = 0
    · rw [if_pos c, el, bnO_s, if_neg (by omega), ebyte, bnO_s]
      show some ((Value.ref (nCell + L.length), (S, L1)), 0 + 1, 0 + n) = _
      rw [Nat.zero_add, Nat.zero_add]
    · rw [if_neg c, ebyte, bnO_s]
      show some ((Value.ref (nCell + L.length), (S, L1)), 0 + 1, 0 + n) = _
      rw [Nat.zero_add, Nat.zero_add]
  · rw [if_pos hw, slice_get hw]
/-- a new text of a piece -/
theorem k_newS (hy : LkY L r bs.length (fun w => bs.getD w 0)) (ha : Asc bs) (hl : bs.length < 5000) (h : a + n ≤ bs.length) (hna : ¬ (a = 0 ∧ n = bs.length)) (hL : L.length < 700000000) :
    ∃ x L1 c s, gn_SL_newString r (a : Int) (n : Int) S L = some ((Value.ref x, (S, L1)), c, s) ∧ (c ≤ 2 ∧ s ≤ 4 + n) ∧ Sf F0_ L L1 ∧ L1.length ≤ L.length + 2 ∧ ((L1 = L ∧ ∀ L0, StH L0 x ((bs.drop a).take n)) ∨ ∀ K, Sf (fun b => b < nCell + L.length) L1 K → StH K x ((bs.drop a).take n)) := by
  by_cases c0 : n = 0
  · refine ⟨XB + 8, L, 0, 0, ?_, ⟨by omega, by omega⟩, Sf.refl, by omega, .inl ⟨rfl, fun L0 => ?_⟩⟩
    · unfold gn_SL_newString
      rw [if_pos (by omega)]
    · have q := st_lit (L := L0) (j := 8) (Nat.le_of_ble_eq_true rfl)
      have e : litB 8 = (bs.drop a).take n := by rw [c0, List.take_zero]; decide
      rw [e] at q
      exact q
  · have n0 := N1.of (L := L) (c := (16, dfl 16)) (by omega)
    have l0 : (L ++ [(16, dfl 16)]).length = L.length + 1 := n0.2.1
    obtain ⟨L2, e2, z2, s2, l2⟩ := k_cpR (S := S) (hy.sf0 n0.sf0) ha hl h (by omega) hna (by omega)
    have ea : nCell + (L ++ [(16, dfl 16)]).length = nCell + L.length + 1 := by rw [l0]; omega
    rw [ea] at e2 z2
    have h3 : hp L2 (nCell + L.length) = some (16, dfl 16) := s2.at0 n0.at
    obtain ⟨L3, e3, w3⟩ := pf_s h3 (f := 0) (Nat.le_of_ble_eq_true rfl) (Value.ref (nCell + L.length + 1))
    obtain ⟨L4, e4, w4⟩ := pf_s w3.at (f := 1) (Nat.le_of_ble_eq_true rfl) (V 0)
    have y4 : RowY L4 (nCell + L.length + 1) n (fun w => ((bs.drop a).take n).getD w 0) := (z2.w1 w3 (by omega)).w1 w4 (by omega)
    have sl := slice_len (bs := bs) h
    have y5 : RowY L4 (nCell + L.length + 1) ((bs.drop a).take n).length (fun w => ((bs.drop a).take n).getD w 0) := by rw [sl]; exact y4
    refine ⟨nCell + L.length, L4, 2, 4 + n, ?_, ⟨Nat.le_refl _, Nat.le_refl _⟩, (((Sf.refl.n n0).trans s2).w w3 (.inr (Nat.le_refl _))).w w4 (.inr (Nat.le_refl _)), by rw [w4.1, w3.1, l2, l0]; omega, .inr (st_far w4.at rfl rfl y5 ha.slice (by omega) (by omega) (by omega))⟩
    unfold gn_SL_newString gn_String_init3
    rw [if_neg (by omega), if_pos (by omega), nw_x, nm_x, show (a : Int) + (n : Int) = (((a + n : Nat)) : Int) by omega, wr_s (z := (((a + n : Nat)) : Int)) (by omega) (by omega), e2, bnO_s, rfB_r]
    show adC 1 4 (adC 1 n (bnO (bnO (pf L2 (nCell + L.length) 16 0 (Value.ref (nCell + L.length + 1))) _) _)) = _
    rw [e3, bnO_s, if_pos (by decide), e4, bnO_s]
    show some ((Value.ref (nCell + L.length), (S, L4)), 0 + 0 + 1 + 1, 0 + 0 + n + 4) = _
    simp only [Nat.zero_add]
    rw [Nat.add_comm n 4]
theorem k_latin (h : StH L a bs) : gn_String_isLatin1 a S L = some true := by
  obtain ⟨⟨h0, ha, hl⟩, r, vs, h1, h2, h3, h4⟩ := h
  unfold gn_String_isLatin1
  rw [gfI_lk h1 h3 inR_0, bnO_s, if_pos rfl]
theorem k_sub2 (h : StH L t bs) (hab : a + n ≤ bs.length) (hL : L.length < 700000000) :
    ∃ x L1 c s, gn_String_substring2 t (a : Int) (((a + n : Nat)) : Int) S L = some ((Value.ref x, (S, L1)), c, s) ∧ (c ≤ 2 ∧ s ≤ 4 + n) ∧ Sf F0_ L L1 ∧ L1.length ≤ L.length + 2 ∧ ((L1 = L ∧ ∀ L0, StH L0 t bs → StH L0 x ((bs.drop a).take n)) ∨ ∀ K, Sf (fun b => b < nCell + L.length) L1 K → StH K x ((bs.drop a).take n)) := by
  have hk := h.k
  have hlat := k_latin (S := S) h
  have hlen := k_strLen (S := S) h
  have hh := h
  obtain ⟨⟨h0, ha, hl⟩, r, vs, h1, h2, h3, h4⟩ := hh
  unfold gn_String_substring2 gn_String_checkBoundsBeginEnd gn_Prec_checkFromToIndex
  rw [if_pos hk, hlen, bnO_s, if_neg (by omega), if_neg (by omega), if_pos (by omega), bnO_s, bnO_s]
  by_cases c : a = 0 ∧ n = bs.length
  · refine ⟨t, L, 0, 0, ?_, ⟨by omega, by omega⟩, Sf.refl, by omega, .inl ⟨rfl, fun L0 q => ?_⟩⟩
    · rw [if_pos (by omega), if_pos (by omega)]
    · rw [c.1, c.2, List.drop_zero, List.take_length]
      exact q
  · obtain ⟨x, L1, c1, s1, e1, q1, q2, q3, q4⟩ := k_newS (S := S) h4 ha hl hab c hL
    have eo : (adC c1 s1 (some ((Value.ref x, (S, L1)), 0, 0)) : Option ((Value × LZ) × Nat × Nat)) = some ((Value.ref x, (S, L1)), c1, s1) := by
      show some ((Value.ref x, (S, L1)), 0 + c1, 0 + s1) = _
      rw [Nat.zero_add, Nat.zero_add]
    refine ⟨x, L1, c1, s1, ?_, q1, q2, q3, ?_⟩
    · by_cases d : (a : Int) = 0
      · rw [if_pos d, if_neg (by omega), nm_x, show (((a + n : Nat)) : Int) - (a : Int) = (n : Int) by omega, wr_s (z := (n : Int)) (by omega) (by omega), if_pos hk, hlat, bnO_s, if_pos rfl, gfV_lk h1 h2, bnO_s, rfB_r, e1, bnO_s]
        exact eo
      · rw [if_neg d, nm_x, show (((a + n : Nat)) : Int) - (a : Int) = (n : Int) by omega, wr_s (z := (n : Int)) (by omega) (by omega), if_pos hk, hlat, bnO_s, if_pos rfl, gfV_lk h1 h2, bnO_s, rfB_r, e1, bnO_s]
        exact eo
    · rcases q4 with ⟨u1, u2⟩ | u
      · exact .inl ⟨u1, fun L0 _ => u2 L0⟩
      · exact .inr u
theorem k_sub1 (h : StH L t bs) (hab : a + n = bs.length) (hL : L.length < 700000000) :
    ∃ x L1 c s, gn_String_substring t (a : Int) S L = some ((Value.ref x, (S, L1)), c, s) ∧ (c ≤ 2 ∧ s ≤ 4 + n) ∧ Sf F0_ L L1 ∧ L1.length ≤ L.length + 2 ∧ ((L1 = L ∧ ∀ L0, StH L0 t bs → StH L0 x ((bs.drop a).take n)) ∨ ∀ K, Sf (fun b => b < nCell + L.length) L1 K → StH K x ((bs.drop a).take n)) := by
  have hk := h.k
  have hlen := k_strLen (S := S) h
  obtain ⟨x, L1, c, s, e, q⟩ := k_sub2 (S := S) (a := a) (n := n) h (by omega) hL
  rw [hab] at e
  refine ⟨x, L1, c, s, ?_, q⟩
  unfold gn_String_substring
  rw [if_pos hk, hlen, bnO_s, if_pos hk, e, bnO_s]
  show some ((Value.ref x, (S, L1)), 0 + c, 0 + s) = _
  rw [Nat.zero_add, Nat.zero_add]
end Subs
section Chain2
variable {S : St} {L L0 L2 : List PC} {N M a t x c s C T : Nat} {bs us ts : List Int} {β : Type} {R : β → Prop}
/-- a piece behind a text that is made -/
theorem ap_x (h : SbN N L0 M L2 a us c s) (ht : StH L0 t bs) (hx : (L = L2 ∧ ∀ L0, StH L0 t bs → StH L0 x ts) ∨ ∀ K, Sf (fun b => b < nCell + L2.length) L K → StH K x ts) (hs : Sf F0_ L2 L) {M1 : Nat} (hM : M1 ≤ 600000000) (hM2 : L.length + c ≤ M1) (hMM : M ≤ M1) (hl : us.length + ts.length ≤ N) {k : (Value × LZ) × Nat × Nat → Option (β × Nat × Nat)} (hk : ∀ L1 c1 s1 u v, SbN N L0 M1 L1 a (us ++ ts) c1 s1 → Ok (k ((Value.ref a, (S, L1)), u, v)) (c1 + C) (s1 + T) R) :
    Ok (bnO (gn_SB_append a x S L) fun p => adC p.2.1 p.2.2 (k p)) (c + C) (s + T) R := by
  rcases hx with ⟨e, q⟩ | q
  · rw [e]
    exact ap_s h (q L0 ht) hl (fun L1 c1 s1 u v z => hk L1 c1 s1 u v ⟨⟨z.1.1, hM, by have := z.1.2.2; omega⟩, z.2⟩)
  · exact ap_f h q hs hM hM2 hl hk
end Chain2
