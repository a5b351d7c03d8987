/-! TEXTS: rows of bytes, texts, a text being made -/
theorem shl0 {a : Int} (h : inR a) : i_shl a 0 = a := by
  unfold i_shl
  have e : Int32.ofInt 0 &&& 31 = 0 := by decide
  rw [e, Int32.shiftLeft_zero]
  exact I_toInt h
theorem shr0 {a : Int} (h : inR a) : i_shr a 0 = a := by
  unfold i_shr
  have e : Int32.ofInt 0 &&& 31 = 0 := by decide
  rw [e, Int32.shiftRight_zero]
  exact I_toInt h
theorem byte_ok : ∀ n : Nat, n < 128 → isB (V (n : Int)) = true ∧ (match V (n : Int) with | .int q => fits (aT (101 - 100)) (.int q) | _ => false) = true ∧ i_nb (n : Int) = (n : Int) := by decide +kernel
theorem byte_B {z : Int} (h : 0 ≤ z ∧ z ≤ 127) : isB (V z) = true := by
  have q := (byte_ok z.toNat (by omega)).1
  rw [Int.toNat_of_nonneg h.1] at q
  exact q
theorem byte_F {z : Int} (h : 0 ≤ z ∧ z ≤ 127) : (match V z with | .int q => fits (aT (101 - 100)) (.int q) | _ => false) = true := by
  have q := (byte_ok z.toNat (by omega)).2.1
  rw [Int.toNat_of_nonneg h.1] at q
  exact q
theorem byte_N {z : Int} (h : 0 ≤ z ∧ z ≤ 127) : i_nb z = z := by
  have q := (byte_ok z.toNat (by omega)).2.2
  rw [Int.toNat_of_nonneg h.1] at q
  exact q
def RowY (L : List PC) (r n : Nat) (f : Nat → Int) : Prop := ∃ vs, hp L r = some (101, vs) ∧ vs.length = n ∧ ∀ w : Nat, w < n → vs[w]? = some (V (f w))
def LkY (L : List PC) (r n : Nat) (f : Nat → Int) : Prop := ∃ vs, (lk L r = some (101, vs) ∧ rowB L r = some vs ∧ r ≠ XB + 300 + 300) ∧ vs.length = n ∧ ∀ w : Nat, w < n → vs[w]? = some (V (f w))
section Ys
variable {L K K1 L1 : List PC} {r n m a b : Nat} {f g : Nat → Int}
theorem RowY.lk (h : RowY L r n f) : LkY L r n f := by
  obtain ⟨vs, h1, h2, h3⟩ := h
  have hb := hp_bd h1
  refine ⟨vs, ⟨lk_hp h1, ?_, by have := hb.2.1; omega⟩, h2, h3⟩
  unfold rowB
  rw [if_pos hb.2.1, h1]
  exact if_pos rfl
theorem RowY.eq (h : RowY K r n f) {g : Nat → Int} (e : ∀ w : Nat, w < n → f w = g w) : RowY K r n g := by
  obtain ⟨vs, h1, h2, h3⟩ := h
  exact ⟨vs, h1, h2, fun w hw => by rw [h3 w hw, e w hw]⟩
theorem LkY.eq (h : LkY K r n f) {g : Nat → Int} (e : ∀ w : Nat, w < n → f w = g w) : LkY K r n g := by
  obtain ⟨vs, h1, h2, h3⟩ := h
  exact ⟨vs, h1, h2, fun w hw => by rw [h3 w hw, e w hw]⟩
theorem RowY.put (h : RowY K r n f) {w : Int} (hw : 0 ≤ w ∧ w < n) (z : Int) : ∃ K1, ast K 101 r w (V z) = some K1 ∧ RowY K1 r n (fun j => if j = w.toNat then z else f j) ∧ ∃ c, W1 K K1 r c := by
  obtain ⟨vs, h1, h2, h3⟩ := h
  obtain ⟨K1, e, w1⟩ := ast_s h1 hw.1 (by omega) (V z)
  refine ⟨K1, e, ⟨_, w1.at, by rw [List.length_set]; exact h2, fun j hj => ?_⟩, _, w1⟩
  show _ = some (V (if j = w.toNat then z else f j))
  rw [List.getElem?_set]
  by_cases c : w.toNat = j
  · rw [if_pos c, if_pos (by omega), if_pos c.symm]
  · rw [if_neg c, if_neg (fun q => c q.symm)]
    exact h3 j hj
theorem RowY.w1 (h : RowY K r n f) {r' : Nat} {c : PC} (hw : W1 K K1 r' c) (hne : r ≠ r') : RowY K1 r n f := by
  obtain ⟨vs, h1, h2, h3⟩ := h
  exact ⟨vs, by rw [hw.ne hne]; exact h1, h2, h3⟩
theorem RowY.sf0 (h : RowY K r n f) (hs : Sf F0_ K K1) : RowY K1 r n f := by
  obtain ⟨vs, h1, h2⟩ := h
  exact ⟨vs, hs.at0 h1, h2⟩
theorem RowY.lt (h : RowY K r n f) : r < nCell + K.length := by
  obtain ⟨vs, h1, -⟩ := h
  exact hp_lt h1
theorem RowY.new (hL : K.length < 900000000) : N1 K (K ++ [(101, List.replicate m (.int 0))]) (nCell + K.length) (101, List.replicate m (.int 0)) ∧ RowY (K ++ [(101, List.replicate m (.int 0))]) (nCell + K.length) m (fun _ => 0) := by
  have n1 := N1.of (L := K) (c := (101, List.replicate m (Value.int 0))) hL
  refine ⟨n1, _, n1.at, List.length_replicate, fun w hw => ?_⟩
  rw [List.getElem?_replicate, if_pos hw]
  rfl
theorem lk_keep (hs : Sf F0_ K K1) {x : Nat} {c : PC} (h : lk K x = some c) : lk K1 x = some c := by
  unfold lk at h ⊢
  by_cases q : x < XB
  · rw [if_pos q] at h ⊢
    exact hs.at0 h
  · rw [if_neg q] at h ⊢
    exact h
theorem LkY.sf0 (h : LkY K r n f) (hs : Sf F0_ K K1) : LkY K1 r n f := by
  obtain ⟨vs, ⟨h1, h2, h3⟩, h4⟩ := h
  refine ⟨vs, ⟨lk_keep hs h1, ?_, h3⟩, h4⟩
  unfold rowB at h2 ⊢
  by_cases q : r < XB
  · rw [if_pos q] at h2 ⊢
    cases e : hp K r with
    | none => rw [e] at h2; cases h2
    | some c =>
      rw [e] at h2
      rw [hs.at0 e]
      exact h2
  · rw [if_neg q] at h2 ⊢
    exact h2
theorem LkY.len_ (h : LkY L r n f) (hn : n < 10000) : alm L r = some (n : Int) := by
  obtain ⟨vs, ⟨h1, -, h3⟩, h4, -⟩ := h
  unfold alm aln
  rw [if_neg h3, h1]
  show (if 100 ≤ 101 ∧ 101 < 104 ∧ vs.length < 2147483648 then some (vs.length : Int) else none) = _
  rw [if_pos ⟨by decide, by decide, by omega⟩, h4]
theorem LkY.at (h : LkY L r n f) {i : Int} (hi : 0 ≤ i ∧ i < n) (hz : inR (f i.toNat)) : ald L 1 r i = some (f i.toNat) := by
  obtain ⟨vs, ⟨h1, -, -⟩, h4, h5⟩ := h
  unfold ald ca
  rw [if_pos hi.1]
  unfold cf
  rw [h1]
  show vI (if 101 = 100 + 1 then vs[i.toNat]? else none) = _
  rw [if_pos rfl, h5 i.toNat (by omega), vI_V hz]
/-- bytes copied from the head of one row into another -/
theorem cpB_y {y z : Nat} (h1 : LkY L a n f) (h2 : RowY L b m g) (hz : z ≤ n) (hy : y + z ≤ m) (hf : ∀ w, w < n → 0 ≤ f w ∧ f w ≤ 127) : ∃ L1, cpB L a 0 b (y : Int) (z : Int) = some L1 ∧ RowY L1 b m (fun w => if y ≤ w ∧ w < y + z then f (w - y) else g w) ∧ ∃ c, W1 L L1 b c := by
  obtain ⟨va, ⟨-, a2, -⟩, a4, a5⟩ := h1
  obtain ⟨vb, b1, b2, b3⟩ := h2
  have w1 := W1.of (c := (101, cpL va vb 0 y z)) b1
  refine ⟨_, ?_, ⟨_, w1.at, by rw [cpL_len]; exact b2, fun w hw => ?_⟩, _, w1⟩
  · unfold cpB
    rw [a2, b1]
    have e : ((0 : Int)).toNat = 0 := rfl
    refine if_pos ⟨rfl, Int.le_refl _, by omega, by omega, by rw [e, Int.toNat_natCast]; omega, by rw [Int.toNat_natCast, Int.toNat_natCast]; show y + z ≤ vb.length; omega, List.all_eq_true.mpr (fun j hj => ?_)⟩
    have hj : j < z := by have := List.mem_range.mp hj; omega
    show isB (va.getD (0 + j) Value.null) = true
    rw [Nat.zero_add, gd_of (a5 j (by omega))]
    exact byte_B (hf j (by omega))
  · show _ = some (V (if y ≤ w ∧ w < y + z then f (w - y) else g w))
    rw [cpL_get (by omega)]
    by_cases c : y ≤ w ∧ w < y + z
    · rw [if_pos c, if_pos c, Nat.zero_add, gd_of (a5 (w - y) (by omega))]
    · rw [if_neg c, if_neg c, gd_of (b3 w hw)]
/-- a row of bytes cloned -/
theorem cln_y (h : RowY L r n f) (hf : ∀ w, w < n → 0 ≤ f w ∧ f w ≤ 127) : ∃ vs, cln L 1 r = some vs ∧ hp L r = some (101, vs) ∧ vs.length = n ∧ ∀ w : Nat, w < n → vs[w]? = some (V (f w)) := by
  obtain ⟨vs, h1, h2, h3⟩ := h
  refine ⟨vs, ?_, h1, h2, h3⟩
  unfold cln
  rw [h1]
  refine if_pos ⟨rfl, List.all_eq_true.mpr (fun v hv => ?_)⟩
  obtain ⟨i, hi⟩ := List.mem_iff_getElem?.mp hv
  have hi : vs[i]? = some v := hi
  have hl := (List.getElem?_eq_some_iff.mp hi).1
  have e := h3 i (by omega)
  have hv2 : v = V (f i) := by
    rw [e] at hi
    exact (Option.some.inj hi).symm
  rw [hv2]
  exact byte_F (hf i (by omega))
end Ys
theorem gd_i {xs : List Int} {w : Nat} {z : Int} (h : xs[w]? = some z) : xs.getD w 0 = z := by rw [List.getD_eq_getElem?_getD, h]; rfl
def Asc (bs : List Int) : Prop := ∀ w : Nat, w < bs.length → 0 ≤ bs.getD w 0 ∧ bs.getD w 0 ≤ 127
def StH (L : List PC) (a : Nat) (bs : List Int) : Prop := (a ≠ 0 ∧ Asc bs ∧ bs.length < 5000) ∧ ∃ r vs, lk L a = some (16, vs) ∧ vs[0]? = some (Value.ref r) ∧ vs[1]? = some (V 0) ∧ LkY L r bs.length (fun w => bs.getD w 0)
def SbH (L : List PC) (a r cap : Nat) (bs : List Int) : Prop := (Asc bs ∧ bs.length ≤ cap ∧ cap < 9000) ∧ (∃ v2, hp L a = some (15, [Value.ref r, V 0, v2, V bs.length])) ∧ ∃ f, RowY L r cap f ∧ (∀ w, w < cap → 0 ≤ f w ∧ f w ≤ 127) ∧ ∀ w : Nat, w < bs.length → f w = bs.getD w 0
def litB (j : Nat) : List Int := (bytS.getD j []).map Int32.toInt
theorem litB_ok : ∀ j : Nat, j < nLit → (litB j).length < 5000 ∧ (litB j).all (fun z => decide (0 ≤ z ∧ z ≤ 127)) = true := by decide +kernel
section Sts
variable {S : St} {L L0 L1 K K1 : List PC} {a r c cap : Nat} {bs ts : List Int}
theorem gfI_lk {ci f : Nat} {vs : List Value} {z : Int} (h : lk L a = some (ci, vs)) (hv : vs[f]? = some (V z)) (hz : inR z) : gfI L a ci f = some z := by
  unfold gfI cf
  rw [h]
  show vI (if ci = ci then vs[f]? else none) = _
  rw [if_pos rfl, hv, vI_V hz]
theorem gfV_lk {ci f : Nat} {vs : List Value} {b : Nat} (h : lk L a = some (ci, vs)) (hv : vs[f]? = some (Value.ref b)) : gfV L a ci f = some (Value.ref b) := by
  unfold gfV cf
  rw [h]
  show vO (if ci = ci then vs[f]? else none) = _
  rw [if_pos rfl, hv]; rfl
theorem isK_lk {ci : Nat} {vs : List Value} (h0 : a ≠ 0) (h : lk L a = some (ci, vs)) (hc : ci < 18) : isK L a ci = true := by
  unfold isK kcl
  rw [if_neg h0, h]
  show (match (if ci < 18 then some ci else none) with | some c => Nat.beq c ci | none => false) = true
  rw [if_pos hc]
  exact Nat.beq_refl ci
theorem StH.k (h : StH L a bs) : isK L a 16 = true := by
  obtain ⟨⟨h0, -⟩, r, vs, h1, -⟩ := h
  exact isK_lk h0 h1 (by decide)
theorem StH.sf0 (h : StH K a bs) (hs : Sf F0_ K K1) : StH K1 a bs := by
  obtain ⟨h0, r, vs, h1, h2, h3, h4⟩ := h
  exact ⟨h0, r, vs, lk_keep hs h1, h2, h3, h4.sf0 hs⟩
theorem st_lit {j : Nat} (hj : j < nLit) : StH L (XB + j) (litB j) := by
  have hn : nLit ≤ 100 := Nat.le_of_ble_eq_true rfl
  have q := litB_ok j hj
  have hlen : (litB j).length = (bytS.getD j []).length := List.length_map _
  refine ⟨⟨by unfold XB; omega, fun w hw => ?_, q.1⟩, XB + j + 100, [Value.ref (XB + j + 100), .int 0], ?_, rfl, rfl, (bytS.getD j []).map Value.int, ⟨?_, ?_, by omega⟩, by rw [List.length_map, hlen], fun w hw => ?_⟩
  · have e := List.all_eq_true.mp q.2 ((litB j).getD w 0) (by rw [List.getD_eq_getElem?_getD, List.getElem?_eq_getElem hw]; exact List.getElem_mem hw)
    exact of_decide_eq_true e
  · unfold lk
    rw [if_neg (by omega), if_pos (by omega)]
  · unfold lk
    rw [if_neg (by omega), if_neg (by omega), if_pos (by omega), show XB + j + 100 - (XB + 100) = j by omega]
  · unfold rowB
    rw [if_neg (by omega), if_pos (by omega), show XB + j + 100 - (XB + 100) = j by omega]
  · obtain ⟨x, hx⟩ : ∃ x, (bytS.getD j [])[w]? = some x := ⟨_, List.getElem?_eq_getElem (by omega)⟩
    have e : (litB j)[w]? = some x.toInt := by
      unfold litB
      rw [List.getElem?_map, hx]; rfl
    show _ = some (V ((litB j).getD w 0))
    rw [List.getElem?_map, hx, gd_i e]
    show some (Value.int x) = some (Value.int (Int32.ofInt (Int32.toInt x)))
    rw [Int32.ofInt_toInt]
theorem len_in2 {n : Nat} (h : n < 100000) : inR (n : Int) := by unfold inR; omega
theorem k_strLen (h : StH L a bs) : gn_String_length a S L = some (bs.length : Int) := by
  have hk := h.k
  obtain ⟨⟨h0, ha, hl⟩, r, vs, h1, h2, h3, h4⟩ := h
  unfold gn_String_length gn_String_coder
  rw [gfV_lk h1 h2, bnO_s, rfB_r, h4.len_ (by omega), bnO_s, if_pos hk, gfI_lk h1 h3 inR_0, bnO_s, if_pos (by decide), bnO_s, shr0 (len_in2 (by omega))]
theorem k_charAt (h : StH L a bs) {i : Int} (hi : 0 ≤ i ∧ i < bs.length) : gn_String_charAt a i S L = some (bs.getD i.toNat 0) := by
  have hk := h.k
  obtain ⟨⟨h0, ha, hl⟩, r, vs, h1, h2, h3, h4⟩ := h
  have hz := ha i.toNat (by omega)
  have e := h4.at hi (by show inR (bs.getD i.toNat 0); unfold inR; omega)
  have e : ald L 1 r i = some (bs.getD i.toNat 0) := e
  have eb : i_and (bs.getD i.toNat 0) 255 = bs.getD i.toNat 0 := and_b ⟨hz.1, by omega⟩
  unfold gn_String_charAt gn_String_isLatin1 gn_StringLatin1_charAt gn_String_checkIndex gn_Preconditions_checkIndex
  rw [if_pos hk, gfI_lk h1 h3 inR_0, bnO_s, if_pos rfl, bnO_s, if_pos rfl, gfV_lk h1 h2, bnO_s, rfB_r, h4.len_ (by omega), bnO_s, if_neg (by omega), if_pos hi.2, bnO_s, bnO_s, e, bnO_s, eb, if_pos (by omega), if_pos (by omega), bnO_s, if_pos (by omega)]
/-- a text being made -/
theorem SbH.k (h : SbH L a r cap bs) : isK L a 15 = true := by
  obtain ⟨-, ⟨v2, h2⟩, -⟩ := h
  exact isK_s h2 (by decide)
theorem k_sbInit (hL : L.length < 800000000) : ∃ L1, gn_SB_init (nCell + L.length) S (L ++ [(15, dfl 15)]) = some ((S, L1), 1, 16) ∧ SbH L1 (nCell + L.length) (nCell + L.length + 1) 16 [] ∧ L1.length = L.length + 2 ∧ Sf F0_ L L1 := by
  have n0 := N1.of (L := L) (c := (15, dfl 15)) (by omega)
  have l0 : (L ++ [(15, dfl 15)]).length = L.length + 1 := n0.2.1
  obtain ⟨n1, r1⟩ := RowY.new (K := L ++ [(15, dfl 15)]) (m := 16) (by omega)
  have ea : nCell + (L ++ [(15, dfl 15)]).length = nCell + L.length + 1 := by rw [l0]; omega
  rw [ea] at n1 r1
  have h1 : hp ((L ++ [(15, dfl 15)]) ++ [(101, List.replicate 16 (.int 0))]) (nCell + L.length) = some (15, dfl 15) := by rw [n1.2.2, if_neg (by omega)]; exact n0.at
  obtain ⟨L2, e2, w2⟩ := pf_s h1 (f := 0) (Nat.le_of_ble_eq_true rfl) (Value.ref (nCell + L.length + 1))
  obtain ⟨L3, e3, w3⟩ := pf_s w2.at (f := 1) (Nat.le_of_ble_eq_true rfl) (V 0)
  have hne : nCell + L.length + 1 ≠ nCell + L.length := by omega
  refine ⟨L3, ?_, ⟨⟨fun w hw => absurd hw (Nat.not_lt_zero _), Nat.zero_le _, by decide⟩, ⟨_, w3.at⟩, _, (r1.w1 w2 hne).w1 w3 hne, fun w _ => ⟨Int.le_refl _, by show (0 : Int) ≤ 127; decide⟩, fun w hw => absurd hw (Nat.not_lt_zero _)⟩, by rw [w3.1, w2.1, n1.2.1, l0], ((Sf.refl.n n0).n n1).w w2 (.inr (Nat.le_refl _)) |>.w w3 (.inr (Nat.le_refl _))⟩
  unfold gn_SB_init gn_ASB_init
  rw [if_pos (by decide), if_pos (by omega)]
  show bnO (adC 1 16 (bnO (pf ((L ++ [(15, dfl 15)]) ++ [(101, List.replicate 16 (.int 0))]) (nCell + L.length) 15 0 (Value.ref (nCell + (L ++ [(15, dfl 15)]).length))) _)) _ = _
  rw [ea, e2, bnO_s, e3]; rfl
end Sts
