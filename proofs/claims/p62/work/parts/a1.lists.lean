/-! LISTS: what is put there, taken there -/
theorem lp_OkG {ι α β : Type} {R : β → Prop} {body : (α → Option (β × Nat × Nat)) → α → Option (β × Nat × Nat)} (rk : ι → Nat) (I : ι → α → Prop) (cC cT : ι → Nat)
    (hs : ∀ go i a, I i a → (∀ i' a', rk i' < rk i → I i' a' → Ok (go a') (cC i') (cT i') R) → Ok (body go a) (cC i) (cT i) R) : ∀ N i a, I i a → rk i < N → Ok (lp body N a) (cC i) (cT i) R
  | 0, _, _, _, h => absurd h (Nat.not_lt_zero _)
  | N + 1, i, a, hI, hN => hs (lp body N) i a hI (fun i' a' hr hI' => lp_OkG rk I cC cT hs N i' a' hI' (by omega))
theorem shr1 : ∀ n : Nat, n < 256 → i_shr (n : Int) 1 = ((n / 2 : Nat) : Int) := by decide +kernel
/-- how large a row grows -/
def nxc (c : Nat) : Nat := if c = 0 then 10 else c + (if c / 2 < 1 then 1 else c / 2)
theorem okE_i {L : List PC} {x k : Nat} {vs : List Value} (h : hp L x = some (k, vs)) (hk : k = 11 ∨ k = 12 ∨ k = 17) : okE L (Value.ref x) = true := by
  show (isK L x 11 || isK L x 12 || isK L x 17) = true
  rcases hk with rfl | rfl | rfl
  · rw [isK_s h (by decide)]; rfl
  · rw [isK_s h (by decide), Bool.or_true]; rfl
  · rw [isK_s h (by decide), Bool.or_true]
theorem isK_box {L : List PC} {j : Nat} (h : j < 256) : isK L (XB + 300 + j) 17 = true := by
  have e : lk L (XB + 300 + j) = some (17, [.int (vb_c j)]) := by
    unfold lk
    rw [if_neg (by omega), if_neg (by unfold nLit; omega), if_neg (by unfold nLit; omega), if_pos ⟨by omega, by omega⟩, show XB + 300 + j - (XB + 300) = j by omega]
  unfold isK kcl
  rw [if_neg (by unfold XB; omega), e]
  rfl
theorem okE_box {L : List PC} {j : Nat} (h : j < 256) : okE L (Value.ref (XB + 300 + j)) = true := by
  show (isK L (XB + 300 + j) 11 || isK L (XB + 300 + j) 12 || isK L (XB + 300 + j) 17) = true
  rw [isK_box h, Bool.or_true]
theorem isK_hp {L L' : List PC} {x k : Nat} (h : hp L' x = hp L x) : isK L' x k = isK L x k := by
  unfold isK kcl lk
  rw [h]
theorem okE_hp {L L' : List PC} {x : Nat} (h : hp L' x = hp L x) : okE L' (Value.ref x) = okE L (Value.ref x) := by
  show (isK L' x 11 || isK L' x 12 || isK L' x 17) = (isK L x 11 || isK L x 12 || isK L x 17)
  rw [isK_hp h, isK_hp h, isK_hp h]
theorem okE_13 {L : List PC} {a k : Nat} {vs : List Value} (h : hp L a = some (k, vs)) (h1 : k ≠ 11 ∧ k ≠ 12 ∧ k ≠ 17) : okE L (Value.ref a) = false := by
  have z : ∀ j, k ≠ j → isK L a j = false := fun j hj => by
    unfold isK kcl
    rw [if_neg (hp_n0 h), lk_hp h]
    show (match (if k < 18 then some k else none) with | some c => Nat.beq c j | none => false) = false
    split
    · rename_i c e
      split at e
      · cases e
        cases e2 : Nat.beq k j with
        | false => rfl
        | true => exact absurd (Nat.eq_of_beq_eq_true e2) hj
      · cases e
    · rfl
  show (isK L a 11 || isK L a 12 || isK L a 17) = false
  rw [z 11 h1.1, z 12 h1.2.1, z 17 h1.2.2]; rfl
theorem hp_new {L : List PC} : hp L (nCell + L.length) = none := by
  unfold hp
  split
  · exact List.getElem?_eq_none (by omega)
  · rfl
theorem okE_new {L : List PC} (h : L.length < 900000000) : okE L (Value.ref (nCell + L.length)) = false := by
  have z : ∀ k, isK L (nCell + L.length) k = false := fun k => by
    unfold isK kcl lk
    rw [if_neg (by unfold nCell; omega), if_pos (by unfold nCell XB; omega), hp_new]
  show (isK L _ 11 || isK L _ 12 || isK L _ 17) = false
  rw [z, z, z]; rfl
section Adds
variable {S : St} {L L' : List PC} {a r x : Nat} {m : Int} {cp : Nat} {xs : List Nat}
theorem set_get {vs : List Value} {xs : List Nat} {x n : Nat} (hn : xs.length = n) (hl : n < vs.length) (h : ∀ (i y : Nat), xs[i]? = some y → vs[i]? = some (Value.ref y)) : ∀ (i y : Nat), (xs ++ [x])[i]? = some y → (vs.set n (Value.ref x))[i]? = some (Value.ref y) := by
  intro i y hi
  by_cases e : n = i
  · subst e
    rw [List.getElem?_append_right (by omega), hn, Nat.sub_self] at hi
    cases hi
    rw [List.getElem?_set, if_pos rfl, if_pos hl]
  · rw [List.getElem?_set, if_neg e]
    by_cases q : i < xs.length
    · rw [List.getElem?_append_left q] at hi
      exact h i y hi
    · rw [List.getElem?_append_right (by omega), List.getElem?_eq_none (by show 1 ≤ _; omega)] at hi
      cases hi
/-- the tail of both adds: the element and the new size -/
theorem k_put {a r n : Nat} {m : Int} {vs : List Value} (h1 : hp L a = some (13, [Value.ref r, V n, V m])) (h2 : hp L r = some (103, vs)) (hn : n < vs.length) (x : Nat) : ∃ L1 L2, ast L 103 r (n : Int) (Value.ref x) = some L1 ∧ pf L1 a 13 1 (V ((n : Int) + 1)) = some L2 ∧ L2.length = L.length ∧ ∀ b, hp L2 b = if b = a then some (13, [Value.ref r, V ((n : Int) + 1), V m]) else if b = r then some (103, vs.set n (Value.ref x)) else hp L b := by
  obtain ⟨L1, e1, w1⟩ := ast_s h2 (i := (n : Int)) (by omega) (by omega) (Value.ref x)
  have ha : a ≠ r := by rintro rfl; rw [h1] at h2; cases h2
  have h3 : hp L1 a = some (13, [Value.ref r, V n, V m]) := by rw [w1.ne ha]; exact h1
  obtain ⟨L2, e2, w2⟩ := pf_s h3 (f := 1) (Nat.le_of_ble_eq_true rfl) (V ((n : Int) + 1))
  refine ⟨L1, L2, e1, e2, w2.1.trans w1.1, fun b => ?_⟩
  rw [w2.2]
  by_cases q : b = a
  · rw [if_pos q, if_pos q]; rfl
  · rw [if_neg q, if_neg q, w1.2, show ((n : Int)).toNat = n by omega]
theorem ml_in {m : Int} : inR (wr (m + 1)) := wr_in _
/-- there is room -/
theorem k_add (h : LsH L a r m cp xs) (hok : okE L (Value.ref x) = true) (hl : xs.length < cp) : ∃ L1, gn_AL_add a (Value.ref x) S L = some ((true, (S, L1)), 0, 0) ∧ LsH L1 a r (wr (m + 1)) cp (xs ++ [x]) ∧ L1.length = L.length ∧ ∀ b, b ≠ a → b ≠ r → hp L1 b = hp L b := by
  have b := h.len
  have b2 := h.1.2
  obtain ⟨L3, e3, w3⟩ := pf_s h.2.1 (f := 2) (Nat.le_of_ble_eq_true rfl) (V (wr (m + 1)))
  rcases h.2.2 with ⟨_, e⟩ | ⟨vs, h1, ⟨h2, _⟩, h3⟩
  · omega
  have har : r ≠ a := by rintro rfl; rw [h.2.1] at h1; cases h1
  have q1 : hp L3 a = some (13, [Value.ref r, V xs.length, V (wr (m + 1))]) := w3.at
  have q2 : hp L3 r = some (103, vs) := by rw [w3.ne har]; exact h1
  obtain ⟨L1, L2, e1, e2, l2, w2⟩ := k_put q1 q2 (by omega) x
  have hok3 : okE L3 (Value.ref x) = true := by
    by_cases q : x = a
    · subst q
      rw [okE_13 h.2.1 (by decide)] at hok; cases hok
    · rw [okE_hp (w3.ne q)]; exact hok
  refine ⟨L2, ?_, ⟨⟨wr_in _, by rw [List.length_append]; show xs.length + 1 ≤ cp; omega, h.1.2.2⟩, ?_, .inr ⟨vs.set xs.length (Value.ref x), ?_, ⟨by rw [List.length_set]; exact h2, by omega⟩, set_get rfl (by omega) h3⟩⟩, by rw [l2, w3.1], fun b hb hr => by rw [w2, if_neg hb, if_neg hr, w3.ne hb]⟩
  · unfold gn_AL_add
    rw [h.md, bnO_s, nm_x, e3, bnO_s, gfV_s q1 (f := 0) rfl, bnO_s, gfI_s q1 (f := 1) (z := (xs.length : Int)) rfl (len_in (by omega)), bnO_s]
    show (if isK L3 a 13 = true then _ else none) = _
    rw [if_pos (isK_s q1 (by decide))]
    unfold gn_AL_add2
    rw [alm_s q2 (by decide) (by decide) (by omega), bnO_s, if_neg (by omega), if_pos hok3, e1, bnO_s, nm_x, wr_s (by omega) (by omega), e2]
    rfl
  · rw [w2, if_pos rfl, List.length_append]
    rfl
  · rw [w2, if_neg har, if_pos rfl]
theorem cpQ_s {a b : Nat} {va vb : List Value} {x y z : Int} (h1 : hp L a = some (103, va)) (h2 : hp L b = some (103, vb)) (hx : 0 ≤ x) (hy : 0 ≤ y) (hz : 0 ≤ z) (h3 : x.toNat + z.toNat ≤ va.length) (h4 : y.toNat + z.toNat ≤ vb.length) (h5 : ∀ j, j < z.toNat → okE L (va.getD (x.toNat + j) Value.null) = true) :
    ∃ L1, cpQ L a x b y z = some L1 ∧ W1 L L1 b (103, cpL va vb x.toNat y.toNat z.toNat) := by
  refine ⟨_, ?_, W1.of h2⟩
  unfold cpQ
  rw [h1, h2]
  exact if_pos ⟨rfl, rfl, hx, hy, hz, h3, h4, List.all_eq_true.mpr (fun j hj => h5 j (List.mem_range.mp hj))⟩
theorem cpL_get {f g : List Value} {sp dp n j : Nat} (hj : j < g.length) : (cpL f g sp dp n)[j]? = some (if dp ≤ j ∧ j < dp + n then f.getD (sp + (j - dp)) Value.null else g.getD j Value.null) := by
  unfold cpL
  rw [List.getElem?_map, List.getElem?_range hj]
  rfl
theorem gd_of {vs : List Value} {i : Nat} {v : Value} (h : vs[i]? = some v) : vs.getD i Value.null = v := by rw [List.getD_eq_getElem?_getD, h]; rfl
/-- a larger row -/
theorem k_grow (h : LsH L a r m cp xs) (hx : ∀ y ∈ xs, okE L (Value.ref y) = true) (hl : xs.length = cp) (hc : cp ≤ 120) (hL : L.length < 800000000) :
    ∃ L1 vs, gn_AL_grow a S L = some ((Value.ref (nCell + L.length), (S, L1)), 1, nxc cp) ∧ L1.length = L.length + 1 ∧ hp L1 a = some (13, [Value.ref (nCell + L.length), V xs.length, V m]) ∧ hp L1 (nCell + L.length) = some (103, vs) ∧ vs.length = nxc cp ∧ (∀ (i y : Nat), xs[i]? = some y → vs[i]? = some (Value.ref y)) ∧ ∀ b, b ≠ a → b ≠ nCell + L.length → hp L1 b = hp L b := by
  have b := h.len
  have b2 := h.1.2
  have ha := hp_lt h.2.1
  have hnc : xs.length < nxc cp ∧ nxc cp ≤ 200 := by unfold nxc; split <;> (try split) <;> omega
  rcases h.2.2 with ⟨e, e0⟩ | ⟨vs, h1, ⟨h2, h20⟩, h3⟩
  · -- the empty row
    have hn := N1.of (L := L) (c := (103, List.replicate 10 Value.null)) (by omega)
    have hne : a ≠ nCell + L.length := by omega
    have q1 : hp (L ++ [(103, List.replicate 10 Value.null)]) a = some (13, [Value.ref r, V xs.length, V m]) := by rw [hn.2.2, if_neg hne]; exact h.2.1
    obtain ⟨L2, e2, w2⟩ := pf_s q1 (f := 0) (Nat.le_of_ble_eq_true rfl) (Value.ref (nCell + L.length))
    have hz : xs = [] := h.nil e0
    have hn10 : nxc cp = 10 := by unfold nxc; rw [if_pos e0]
    refine ⟨L2, List.replicate 10 Value.null, ?_, by rw [w2.1, hn.2.1], w2.at, by rw [w2.ne (Ne.symm hne)]; exact hn.at, by rw [hn10]; rfl, fun i y hi => (by rw [hz] at hi; cases hi), fun b h5 h6 => by rw [w2.ne h5, hn.2.2, if_neg h6]⟩
    unfold gn_AL_grow
    rw [h.size, bnO_s, nm_x, wr_s (by omega) (by omega), if_pos h.k]
    unfold gn_AL_grow2
    rw [h.row, bnO_s]
    show bnO (bnO (alm L r) _) _ = _
    rw [e, alm_e, bnO_s, if_neg (by decide), bnO_s]
    rw [rfB_r, if_pos (by unfold apq; rw [decide_eq_true rfl, Bool.true_or]), if_pos rfl]
    have hmx : i_max 10 ((xs.length : Int) + 1) = 10 := by rw [hz]; rfl
    rw [hmx, if_pos (by decide), if_pos (by omega)]
    show bnO (adC 1 10 (bnO (pf (L ++ [(103, List.replicate 10 Value.null)]) a 13 0 (Value.ref (nCell + L.length))) _)) _ = _
    rw [e2, hn10]; rfl
  · have hcp : cp ≠ 0 := by omega
    have hnx : nxc cp = cp + (if cp / 2 < 1 then 1 else cp / 2) := by unfold nxc; rw [if_neg hcp]
    have hn := N1.of (L := L) (c := (103, List.replicate (nxc cp) Value.null)) (by omega)
    have hne : a ≠ nCell + L.length := by omega
    have hrl := hp_lt h1
    have hrne : r ≠ nCell + L.length := by omega
    have har : a ≠ r := by rintro rfl; rw [h.2.1] at h1; cases h1
    have q2 : hp (L ++ [(103, List.replicate (nxc cp) Value.null)]) r = some (103, vs) := by rw [hn.2.2, if_neg hrne]; exact h1
    obtain ⟨L2, e2, w2⟩ := cpQ_s (L := L ++ [(103, List.replicate (nxc cp) Value.null)]) (x := 0) (y := 0) (z := (cp : Int)) q2 hn.at (by decide) (by decide) (by omega) (by show 0 + cp ≤ _; omega) (by show 0 + cp ≤ _; rw [List.length_replicate]; omega) (fun j hj => by
      have hj : j < cp := hj
      obtain ⟨y, hy⟩ : ∃ y, xs[j]? = some y := ⟨_, List.getElem?_eq_getElem (by omega)⟩
      show okE _ (vs.getD (0 + j) Value.null) = true
      rw [Nat.zero_add, gd_of (h3 _ _ hy)]
      have hk := hx y (List.mem_of_getElem? hy)
      rw [← hk]
      refine okE_hp ?_
      rw [hn.2.2, if_neg]
      rintro rfl
      rw [okE_new (by omega)] at hk; cases hk)
    have q1 : hp L2 a = some (13, [Value.ref r, V xs.length, V m]) := by rw [w2.ne hne, hn.2.2, if_neg hne]; exact h.2.1
    obtain ⟨L3, e3, w3⟩ := pf_s q1 (f := 0) (Nat.le_of_ble_eq_true rfl) (Value.ref (nCell + L.length))
    refine ⟨L3, _, ?_, by rw [w3.1, w2.1, hn.2.1], w3.at, by rw [w3.ne (Ne.symm hne)]; exact w2.at, by rw [cpL_len, List.length_replicate], fun i y hi => ?_, fun b h5 h6 => by rw [w3.ne h5, w2.ne h6, hn.2.2, if_neg h6]⟩
    · unfold gn_AL_grow
      rw [h.size, bnO_s, nm_x, wr_s (by omega) (by omega), if_pos h.k]
      unfold gn_AL_grow2
      rw [h.row, bnO_s]
      show bnO (bnO (alm L r) _) _ = _
      rw [alm_s h1 (by decide) (by decide) (by omega), bnO_s, if_pos (by omega), nm_x, wr_s (by omega) (by omega)]
      unfold gn_ArS_newLength
      have e5 : i_max ((xs.length : Int) + 1 - vs.length) (i_shr (vs.length : Int) 1) = ((nxc cp - cp : Nat) : Int) := by
        rw [shr1 vs.length (by omega)]
        unfold i_max
        rw [hnx]
        split <;> split <;> omega
      rw [e5, nm_x, wr_s (by omega) (by omega), if_neg (by omega), if_neg (by omega), bnO_s, bnO_s]
      show bnO (bnO (gn_Ars_copyOf r ((vs.length : Int) + ((nxc cp - cp : Nat) : Int)) S L) _) _ = _
      rw [show (vs.length : Int) + ((nxc cp - cp : Nat) : Int) = ((nxc cp : Nat) : Int) by omega]
      unfold gn_Ars_copyOf gn_Ars_copyOf2
      rw [if_pos (isA_s (t := 3) h1), if_pos (by unfold apq; rw [decide_eq_true rfl, Bool.true_or]), if_pos rfl, if_pos (by omega), if_pos (by omega)]
      have e6 : ((nxc cp : Nat) : Int).toNat = nxc cp := by omega
      rw [e6]
      show bnO (bnO (bnO (adC 1 (nxc cp) (bnO (alm (L ++ [(103, List.replicate (nxc cp) Value.null)]) r) _)) _) _) _ = _
      rw [alm_s q2 (by decide) (by decide) (by omega), bnO_s]
      have e7 : i_min (vs.length : Int) ((nxc cp : Nat) : Int) = (cp : Int) := by unfold i_min; rw [if_neg (by omega)]; omega
      rw [e7, e2, bnO_s]
      show bnO (adC _ _ (bnO (pf L2 a 13 0 (Value.ref (nCell + L.length))) _)) _ = _
      rw [e3]
      show some ((Value.ref (nCell + L.length), S, L3), 0 + (0 + (0 + (0 + 1))), 0 + (0 + (0 + (0 + nxc cp)))) = _
      simp only [Nat.zero_add]
    · have hi2 := (List.getElem?_eq_some_iff.mp hi).1
      rw [cpL_get (by rw [List.length_replicate]; omega)]
      show some (if (0 : Nat) ≤ i ∧ i < 0 + cp then vs.getD (0 + (i - 0)) Value.null else _) = _
      rw [if_pos (by omega), Nat.zero_add, Nat.sub_zero, gd_of (h3 _ _ hi)]
/-- there is none: a new row -/
theorem k_addG (h : LsH L a r m cp xs) (hok : okE L (Value.ref x) = true) (hx : ∀ y ∈ xs, okE L (Value.ref y) = true) (hl : xs.length = cp) (hc : cp ≤ 120) (hL : L.length < 800000000) : ∃ L1, gn_AL_add a (Value.ref x) S L = some ((true, (S, L1)), 1, nxc cp) ∧ LsH L1 a (nCell + L.length) (wr (m + 1)) (nxc cp) (xs ++ [x]) ∧ L1.length = L.length + 1 ∧ ∀ b, b ≠ a → b ≠ nCell + L.length → hp L1 b = hp L b := by
  have b := h.len
  have b2 := h.1.2
  have ha := hp_lt h.2.1
  have hnc : xs.length < nxc cp ∧ nxc cp ≤ 200 := by unfold nxc; split <;> (try split) <;> omega
  obtain ⟨L3, e3, w3⟩ := pf_s h.2.1 (f := 2) (Nat.le_of_ble_eq_true rfl) (V (wr (m + 1)))
  have hno : ∀ y, okE L (Value.ref y) = true → y ≠ a := fun y hy e => by
    subst e
    rw [okE_13 h.2.1 (by decide)] at hy; cases hy
  have h3 : LsH L3 a r (wr (m + 1)) cp xs := by
    refine ⟨⟨wr_in _, h.1.2⟩, w3.at, ?_⟩
    rcases h.2.2 with q | ⟨vs, h1, h2⟩
    · exact .inl q
    · exact .inr ⟨vs, by rw [w3.ne (by rintro rfl; rw [h.2.1] at h1; cases h1)]; exact h1, h2⟩
  obtain ⟨L4, vs, e4, l4, q1, q2, q3, q4, q5⟩ := k_grow (S := S) h3 (fun y hy => by rw [okE_hp (w3.ne (hno y (hx y hy)))]; exact hx y hy) hl hc (by rw [w3.1]; omega)
  rw [w3.1] at e4 l4 q1 q2 q5
  have hne : a ≠ nCell + L.length := by omega
  obtain ⟨L5, L6, e5, e6, l6, w6⟩ := k_put q1 q2 (by omega) x
  have hxn : x ≠ nCell + L.length := by
    rintro rfl
    rw [okE_new (by omega)] at hok; cases hok
  have hok4 : okE L4 (Value.ref x) = true := by rw [okE_hp ((q5 x (hno x hok) hxn).trans (w3.ne (hno x hok)))]; exact hok
  refine ⟨L6, ?_, ⟨⟨wr_in _, by rw [List.length_append]; show xs.length + 1 ≤ nxc cp; omega, hnc.2⟩, ?_, .inr ⟨vs.set xs.length (Value.ref x), ?_, ⟨by rw [List.length_set]; exact q3, by omega⟩, set_get rfl (by omega) q4⟩⟩, by rw [l6, l4], fun b hb hr => by rw [w6, if_neg hb, if_neg hr, q5 b hb hr, w3.ne hb]⟩
  · unfold gn_AL_add
    rw [h.md, bnO_s, nm_x, e3, bnO_s, h3.row, bnO_s, h3.size, bnO_s]
    show (if isK L3 a 13 = true then _ else none) = _
    rw [if_pos h3.k]
    unfold gn_AL_add2
    have hal : alm L3 r = some (xs.length : Int) := by
      rcases h3.2.2 with ⟨e, e0⟩ | ⟨vs, h1, ⟨h2, _⟩, _⟩
      · rw [e, alm_e, h.nil e0]; rfl
      · rw [alm_s h1 (by decide) (by decide) (by omega)]; congr 1; omega
    rw [hal, bnO_s, if_pos rfl, if_pos h3.k, e4, bnO_s]
    show bnO (adC 1 (nxc cp) (if okE L4 (Value.ref x) = true then _ else none)) _ = _
    rw [if_pos hok4, e5, bnO_s, nm_x, wr_s (by omega) (by omega), e6]
    show some ((true, (S, L6)), 0 + (0 + 1), 0 + (0 + nxc cp)) = _
    simp only [Nat.zero_add]
  · rw [w6, if_pos rfl, List.length_append]
    rfl
  · rw [w6, if_neg (Ne.symm hne), if_pos rfl]
end Adds
