/-! A NEW PLAN, A COPY OF A PLAN -/
section Init
variable {S : St} {L L' : List PC} {P : PA} {W : Vw}
def tF (t : Nat) : Nat → Prop := fun b => b = t
def z8 : List Value := List.replicate 8 (.int 0)
def m8 : List Value := ((((((((z8.set 0 (V (-1))).set 1 (V (-1))).set 2 (V (-1))).set 3 (V (-1))).set 4 (V (-1))).set 5 (V (-1))).set 6 (V (-1))).set 7 (V (-1)))
theorem m8_at : ∀ f : Nat, f < 8 → m8[f]? = some (V (-1)) := by
  intro f hf
  rcases (show f = 0 ∨ f = 1 ∨ f = 2 ∨ f = 3 ∨ f = 4 ∨ f = 5 ∨ f = 6 ∨ f = 7 by omega) with rfl | rfl | rfl | rfl | rfl | rfl | rfl | rfl <;> rfl
theorem z8_at : ∀ f : Nat, f < 8 → z8[f]? = some (V 0) := by
  intro f hf
  rcases (show f = 0 ∨ f = 1 ∨ f = 2 ∨ f = 3 ∨ f = 4 ∨ f = 5 ∨ f = 6 ∨ f = 7 by omega) with rfl | rfl | rfl | rfl | rfl | rfl | rfl | rfl <;> rfl
theorem z8_ok : z8.length = 8 ∧ clO 102 z8 := ⟨rfl, rfl⟩
theorem m8_ok : m8.length = 8 ∧ clO 100 m8 := ⟨rfl, rfl⟩
theorem LsH.nilOf {a r : Nat} {m : Int} {xs : List Nat} (h : LsH L a r m 0 xs) : r = XB + 300 + 300 := by
  rcases h.2.2 with ⟨e, _⟩ | ⟨_, _, e, _⟩
  · exact e
  · omega
theorem LsH.w12 {a r t : Nat} {m : Int} {cp : Nat} {xs : List Nat} {vs vs' : List Value} (h : LsH L a r m cp xs) (ht : hp L t = some (12, vs)) (hw : W1 L L' t (12, vs')) : LsH L' a r m cp xs := h.w1 ht (show (12 : Nat) ≠ 13 ∧ (12 : Nat) ≠ 103 by decide) hw
theorem l_init {t : Nat} {vs : List Value} (h0 : hp L t = some (12, vs)) (hvl : vs.length = 10) (hL : L.length < 800000000) : ∃ L' q, gn_LP_init t S L = some ((S, L'), 6, 33) ∧ q = nCell + L.length ∧ L'.length = L.length + 6 ∧ Sf (tF t) L L' ∧
    hp L' t = some (12, (((((((vs.set 0 (V 1)).set 1 (V 16)).set 4 (Value.ref q)).set 5 (Value.ref (q + 1))).set 6 (Value.ref (q + 2))).set 7 (Value.ref (q + 3))).set 8 (Value.ref (q + 4))).set 9 (Value.ref (q + 5))) ∧
    (LsH L' q (XB + 300 + 300) 0 0 [] ∧ LsH L' (q + 1) (XB + 300 + 300) 0 0 [] ∧ LsH L' (q + 2) (XB + 300 + 300) 0 0 []) ∧ hp L' (q + 3) = some (102, z8) ∧ hp L' (q + 4) = some (102, z8) ∧ hp L' (q + 5) = some (100, m8) := by
  have htl := hp_lt h0
  obtain ⟨A1, e1, w1⟩ := pf_s h0 (f := 0) (by omega) (V 1)
  obtain ⟨A2, e2, w2⟩ := pf_s w1.at (f := 1) (by rw [List.length_set]; omega) (V 16)
  have l2 : A2.length = L.length := by rw [w2.1, w1.1]
  obtain ⟨A3, e3, n3, h3⟩ := k_newL (S := S) (L := A2) (by omega)
  have l3 := n3.2.1
  have t3 := (n3.sf0).at0 w2.at
  obtain ⟨A4, e4, w4⟩ := pf_s t3 (f := 4) (by simp only [List.length_set]; omega) (Value.ref (nCell + A2.length))
  have l4 := w4.1
  obtain ⟨A5, e5, n5, h5⟩ := k_newL (S := S) (L := A4) (by omega)
  have l5 := n5.2.1
  have t5 := (n5.sf0).at0 w4.at
  obtain ⟨A6, e6, w6⟩ := pf_s t5 (f := 5) (by simp only [List.length_set]; omega) (Value.ref (nCell + A4.length))
  have l6 := w6.1
  obtain ⟨A7, e7, n7, h7⟩ := k_newL (S := S) (L := A6) (by omega)
  have l7 := n7.2.1
  have t7 := (n7.sf0).at0 w6.at
  obtain ⟨A8, e8, w8⟩ := pf_s t7 (f := 6) (by simp only [List.length_set]; omega) (Value.ref (nCell + A6.length))
  have l8 := w8.1
  have n9 := N1.of (L := A8) (c := (102, List.replicate (8 : Int).toNat (.int 0))) (by omega)
  have l9 := n9.2.1
  have t9 := (n9.sf0).at0 w8.at
  obtain ⟨A10, e10, w10⟩ := pf_s t9 (f := 7) (by simp only [List.length_set]; omega) (Value.ref (nCell + A8.length))
  have l10 := w10.1
  have n11 := N1.of (L := A10) (c := (102, List.replicate (8 : Int).toNat (.int 0))) (by omega)
  have l11 := n11.2.1
  have t11 := (n11.sf0).at0 w10.at
  obtain ⟨A12, e12, w12⟩ := pf_s t11 (f := 8) (by simp only [List.length_set]; omega) (Value.ref (nCell + A10.length))
  have l12 := w12.1
  have n13 := N1.of (L := A12) (c := (100, List.replicate (8 : Int).toNat (.int 0))) (by omega)
  have l13 := n13.2.1
  have t13 := (n13.sf0).at0 w12.at
  obtain ⟨B0, f0, v0⟩ := ast_s n13.at (i := 0) (by decide) (Nat.le_of_ble_eq_true rfl) (V (-1))
  obtain ⟨B1, f1, v1⟩ := ast_s v0.at (i := 1) (by decide) (Nat.le_of_ble_eq_true rfl) (V (-1))
  obtain ⟨B2, f2, v2⟩ := ast_s v1.at (i := 2) (by decide) (Nat.le_of_ble_eq_true rfl) (V (-1))
  obtain ⟨B3, f3, v3⟩ := ast_s v2.at (i := 3) (by decide) (Nat.le_of_ble_eq_true rfl) (V (-1))
  obtain ⟨B4, f4, v4⟩ := ast_s v3.at (i := 4) (by decide) (Nat.le_of_ble_eq_true rfl) (V (-1))
  obtain ⟨B5, f5, v5⟩ := ast_s v4.at (i := 5) (by decide) (Nat.le_of_ble_eq_true rfl) (V (-1))
  obtain ⟨B6, f6, v6⟩ := ast_s v5.at (i := 6) (by decide) (Nat.le_of_ble_eq_true rfl) (V (-1))
  obtain ⟨B7, f7, v7⟩ := ast_s v6.at (i := 7) (by decide) (Nat.le_of_ble_eq_true rfl) (V (-1))
  have nB : N1 A12 B7 (nCell + A12.length) (100, m8) := (((((((n13.w v0).w v1).w v2).w v3).w v4).w v5).w v6).w v7
  have lB := nB.2.1
  have tB := (nB.sf0).at0 w12.at
  obtain ⟨A14, e14, w14⟩ := pf_s tB (f := 9) (by simp only [List.length_set]; omega) (Value.ref (nCell + A12.length))
  have l14 := w14.1
  have g14 : Sf (tF t) B7 A14 := Sf.refl.w w14 (.inl (show tF t t from rfl))
  have g12 : Sf (tF t) (A10 ++ [(102, List.replicate (8 : Int).toNat (Value.int 0))]) A14 := ((Sf.refl.w w12 (.inl (show tF t t from rfl))).n nB).trans g14
  have g10 : Sf (tF t) (A8 ++ [(102, List.replicate (8 : Int).toNat (Value.int 0))]) A14 := ((Sf.refl.w w10 (.inl (show tF t t from rfl))).n n11).trans g12
  have g8 : Sf (tF t) A7 A14 := ((Sf.refl.w w8 (.inl (show tF t t from rfl))).n n9).trans g10
  have g6 : Sf (tF t) A5 A14 := ((Sf.refl.w w6 (.inl (show tF t t from rfl))).n n7).trans g8
  have g4 : Sf (tF t) A3 A14 := ((Sf.refl.w w4 (.inl (show tF t t from rfl))).n n5).trans g6
  have g0 : Sf (tF t) L A14 := (((Sf.refl.w w1 (.inl (show tF t t from rfl))).w w2 (.inl (show tF t t from rfl))).n n3).trans g4
  have ex : ∀ r : Nat, r = XB + 300 + 300 → r < XB → ¬ tF t r := fun r e q => by omega
  refine ⟨A14, nCell + L.length, ?_, rfl, by omega, g0, ?_, ⟨?_, ?_, ?_⟩, ?_, ?_, ?_⟩
  · unfold gn_LP_init
    have hA2 : A2.length < 900000000 := by omega
    have hA4 : A4.length < 900000000 := by omega
    have hA6 : A6.length < 900000000 := by omega
    have hA8 : A8.length < 900000000 := by omega
    have hA10 : A10.length < 900000000 := by omega
    have hA12 : A12.length < 900000000 := by omega
    have h8 : (0 : Int) ≤ 8 ∧ (8 : Int) ≤ 16384 := by decide
    rw [e1, bnO_s, e2, bnO_s, if_pos hA2, nw_x, e3, bnO_s]
    show adC 1 3 (adC 0 0 (bnO (pf A3 t 12 4 _) _)) = _
    rw [adC00, e4, bnO_s, if_pos hA4, nw_x, e5, bnO_s]
    show adC 1 3 (adC 1 3 (adC 0 0 (bnO (pf A5 t 12 5 _) _))) = _
    rw [adC00, e6, bnO_s, if_pos hA6, nw_x, e7, bnO_s]
    show adC 1 3 (adC 1 3 (adC 1 3 (adC 0 0 (bnO (pf A7 t 12 6 _) _)))) = _
    rw [adC00, e8, bnO_s, if_pos h8, if_pos hA8, nw_x, e10, bnO_s, if_pos h8, if_pos hA10, nw_x, e12, bnO_s, if_pos h8, if_pos hA12, nw_x, f0, bnO_s, f1, bnO_s, f2, bnO_s, f3, bnO_s, f4, bnO_s, f5, bnO_s, f6, bnO_s, f7, bnO_s, e14, bnO_s]
    rfl
  · rw [w14.at]
    have q4 : nCell + A4.length = nCell + L.length + 1 := by omega
    have q6 : nCell + A6.length = nCell + L.length + 2 := by omega
    have q8 : nCell + A8.length = nCell + L.length + 3 := by omega
    have q10 : nCell + A10.length = nCell + L.length + 4 := by omega
    have q12 : nCell + A12.length = nCell + L.length + 5 := by omega
    rw [q4, q6, q8, q10, q12, l2]
  · have q := h3.sf g4 (by show ¬ _ = t; omega) (fun z => ex _ rfl z)
    rw [l2] at q
    exact q
  · have q := h5.sf g6 (by show ¬ _ = t; omega) (fun z => ex _ rfl z)
    rw [show nCell + A4.length = nCell + L.length + 1 by omega] at q
    exact q
  · have q := h7.sf g8 (by show ¬ _ = t; omega) (fun z => ex _ rfl z)
    rw [show nCell + A6.length = nCell + L.length + 2 by omega] at q
    exact q
  · have q := g10.at n9.at (by show ¬ _ = t; omega)
    rw [show nCell + A8.length = nCell + L.length + 3 by omega] at q
    exact q
  · have q := g12.at n11.at (by show ¬ _ = t; omega)
    rw [show nCell + A10.length = nCell + L.length + 4 by omega] at q
    exact q
  · have q := g14.at nB.at (by show ¬ _ = t; omega)
    rw [show nCell + A12.length = nCell + L.length + 5 by omega] at q
    exact q
theorem cln_s {k t a : Nat} {vs : List Value} (h : hp L a = some (k, vs)) (hk : k = 100 + t) (ho : clO k vs) : cln L t a = some vs := by
  subst hk
  unfold cln
  rw [h]
  unfold clO at ho
  rw [Nat.add_sub_cancel_left] at ho
  exact if_pos ⟨rfl, ho⟩
theorem Sf.tr0 {F : Nat → Prop} {A K : List PC} (h : Sf F0_ L A) (h' : Sf F A K) (hF : ∀ b, F b → nCell + L.length ≤ b) : Sf F0_ L K := ⟨Nat.le_trans h.1 h'.1, fun b hb _ => by
  rw [h'.2 b (by have := h.1; omega) (fun q => by have := hF b q; omega)]
  exact h.2 b hb id⟩
theorem Itm_ad (hV : Val W) {i : Nat} (hi : (i : Int) < nA W) : Itm (adV W i) := by
  have q := (val_in hV).2.1 i hi
  have v := hV.2.1 i (by omega) hi
  exact ⟨_, _, _, _, _, _, _, rfl, ⟨q 0 (by decide), q 1 (by decide), q 3 (by decide)⟩, ⟨q 4 (by decide), q 5 (by decide), q 6 (by decide)⟩, by rw [← at_n (W := W)]; exact v.2.2.1⟩
theorem Itm_st (hV : Val W) {i : Nat} (hi : (i : Int) < nS W) : Itm (stV W i) := by
  have q := (val_in hV).2.2.1 i hi
  have v := hV.2.2.1 i (by omega) hi
  exact ⟨_, _, _, _, _, _, _, rfl, ⟨q 7 (by decide) (by decide), inR_0, q 9 (by decide) (by decide)⟩, ⟨inR_0, q 10 (by decide) (by decide), q 11 (by decide) (by decide)⟩, by rw [← at_n (W := W)]; exact v.2.1⟩
theorem Itm_sb (hV : Val W) {i : Nat} (hi : (i : Int) < nB W) : Itm (sbV W i) := by
  have q := (val_in hV).2.2.2.1 i hi
  exact ⟨_, _, _, _, _, _, _, rfl, ⟨q 12 (by decide) (by decide), inR_0, inR_0⟩, ⟨inR_0, inR_0, q 13 (by decide) (by decide)⟩, .inl rfl⟩
end Init
