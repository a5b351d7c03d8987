/-! THE LAW'S HEAP: what is read and written there -/
theorem vI_V {z : Int} (h : inR z) : vI (some (V z)) = some z := by
  show some (Int32.ofInt z).toInt = some z
  rw [I_toInt h]
theorem hp_bd {L : List PC} {a : Nat} {c : PC} (h : hp L a = some c) : nCell ≤ a ∧ a < XB ∧ a - nCell < L.length := by
  unfold hp at h
  by_cases q : nCell ≤ a ∧ a < XB
  · rw [if_pos q] at h
    exact ⟨q.1, q.2, (List.getElem?_eq_some_iff.mp h).1⟩
  · rw [if_neg q] at h; cases h
theorem lk_hp {L : List PC} {a : Nat} {c : PC} (h : hp L a = some c) : lk L a = some c := by
  unfold lk
  rw [if_pos (hp_bd h).2.1]
  exact h
theorem hp_n0 {L : List PC} {a : Nat} {c : PC} (h : hp L a = some c) : a ≠ 0 := by
  have q := (hp_bd h).1
  unfold nCell at q
  omega
theorem gfI_s {L : List PC} {a ci f : Nat} {vs : List Value} {z : Int} (h : hp L a = some (ci, vs)) (hv : vs[f]? = some (V z)) (hz : inR z) : gfI L a ci f = some z := by
  unfold gfI cf
  rw [lk_hp h]
  show vI (if ci = ci then vs[f]? else none) = _
  rw [if_pos rfl, hv, vI_V hz]
theorem gfV_s {L : List PC} {a ci f : Nat} {vs : List Value} {b : Nat} (h : hp L a = some (ci, vs)) (hv : vs[f]? = some (Value.ref b)) : gfV L a ci f = some (Value.ref b) := by
  unfold gfV cf
  rw [lk_hp h]
  show vO (if ci = ci then vs[f]? else none) = _
  rw [if_pos rfl, hv]; rfl
theorem isK_s {L : List PC} {a ci : Nat} {vs : List Value} (h : hp L a = some (ci, vs)) (hc : ci < 18) : isK L a ci = true := by
  unfold isK kcl
  rw [if_neg (hp_n0 h), lk_hp h]
  show (match (if ci < 18 then some ci else none) with | some c => Nat.beq c ci | none => false) = true
  rw [if_pos hc]
  exact Nat.beq_refl ci
theorem isA_s {L : List PC} {a t : Nat} {vs : List Value} (h : hp L a = some (100 + t, vs)) : isA L a t = true := by
  unfold isA
  rw [h]
  exact Nat.beq_refl _
theorem aln_s {L : List PC} {a k : Nat} {vs : List Value} (h : hp L a = some (k, vs)) (h1 : 100 ≤ k) (h2 : k < 104) (h3 : vs.length < 2147483648) : aln L a = some (vs.length : Int) := by
  unfold aln
  rw [lk_hp h]
  exact if_pos ⟨h1, h2, h3⟩
theorem alm_s {L : List PC} {a k : Nat} {vs : List Value} (h : hp L a = some (k, vs)) (h1 : 100 ≤ k) (h2 : k < 104) (h3 : vs.length < 2147483648) : alm L a = some (vs.length : Int) := by
  unfold alm
  rw [if_neg (by have := (hp_bd h).2.1; omega)]
  exact aln_s h h1 h2 h3
theorem alm_e {L : List PC} : alm L (XB + 300 + 300) = some 0 := if_pos rfl
theorem ald_s {L : List PC} {t a : Nat} {i z : Int} {vs : List Value} (h : hp L a = some (100 + t, vs)) (hi : 0 ≤ i) (hv : vs[i.toNat]? = some (V z)) (hz : inR z) : ald L t a i = some z := by
  unfold ald ca
  rw [if_pos hi]
  unfold cf
  rw [lk_hp h]
  show vI (if 100 + t = 100 + t then vs[i.toNat]? else none) = _
  rw [if_pos rfl, hv, vI_V hz]
theorem alq_s {L : List PC} {a : Nat} {i : Int} {vs : List Value} {b : Nat} (h : hp L a = some (103, vs)) (hi : 0 ≤ i) (hv : vs[i.toNat]? = some (Value.ref b)) : alq L a i = some (Value.ref b) := by
  unfold alq
  rw [if_neg (by have := (hp_bd h).2.1; omega)]
  unfold ca cf
  rw [if_pos hi, h]
  show vO (if (103 : Nat) = 103 then vs[i.toNat]? else none) = _
  rw [if_pos rfl, hv]; rfl
/-- the small boxes -/
theorem alq_box {L : List PC} {i : Int} (h : 0 ≤ i ∧ i < 256) : alq L (XB + 300 + 303) i = some (Value.ref (XB + 300 + i.toNat)) := by
  unfold alq
  rw [if_pos rfl, if_pos h]
/-! a cell changed, a cell made -/
def W1 (L L1 : List PC) (a : Nat) (c : PC) : Prop := L1.length = L.length ∧ ∀ b, hp L1 b = if b = a then some c else hp L b
theorem hp_set {L : List PC} {a : Nat} {c : PC} (h : nCell ≤ a ∧ a < XB ∧ a - nCell < L.length) (b : Nat) : hp (L.set (a - nCell) c) b = if b = a then some c else hp L b := by
  unfold hp
  by_cases e : b = a
  · subst e
    rw [if_pos rfl, if_pos ⟨h.1, h.2.1⟩, List.getElem?_set, if_pos rfl, if_pos h.2.2]
  · rw [if_neg e]
    by_cases q : nCell ≤ b ∧ b < XB
    · rw [if_pos q, if_pos q, List.getElem?_set, if_neg (by omega)]
    · rw [if_neg q, if_neg q]
theorem W1.of {L : List PC} {a : Nat} {c0 c : PC} (h : hp L a = some c0) : W1 L (L.set (a - nCell) c) a c := ⟨List.length_set, hp_set (hp_bd h)⟩
theorem W1.at {L L1 : List PC} {a : Nat} {c : PC} (h : W1 L L1 a c) : hp L1 a = some c := by rw [h.2, if_pos rfl]
theorem W1.ne {L L1 : List PC} {a b : Nat} {c : PC} (h : W1 L L1 a c) (q : b ≠ a) : hp L1 b = hp L b := by rw [h.2, if_neg q]
theorem W1.trans {L L1 L2 : List PC} {a : Nat} {c c' : PC} (h : W1 L L1 a c) (h' : W1 L1 L2 a c') : W1 L L2 a c' := ⟨h'.1.trans h.1, fun b => by
  rw [h'.2]
  by_cases e : b = a
  · rw [if_pos e, if_pos e]
  · rw [if_neg e, if_neg e, h.ne e]⟩
theorem pf_s {L : List PC} {a ci f : Nat} {vs : List Value} (h : hp L a = some (ci, vs)) (hf : f < vs.length) (v : Value) : ∃ L1, pf L a ci f v = some L1 ∧ W1 L L1 a (ci, vs.set f v) := by
  refine ⟨L.set (a - nCell) (ci, vs.set f v), ?_, W1.of h⟩
  unfold pf
  rw [h]
  exact if_pos ⟨rfl, hf⟩
theorem ast_s {L : List PC} {k a : Nat} {i : Int} {vs : List Value} (h : hp L a = some (k, vs)) (hi : 0 ≤ i) (hf : i.toNat < vs.length) (v : Value) : ∃ L1, ast L k a i v = some L1 ∧ W1 L L1 a (k, vs.set i.toNat v) := by
  obtain ⟨L1, e, w⟩ := pf_s h hf v
  refine ⟨L1, ?_, w⟩
  unfold ast
  rw [if_pos hi, e]
theorem hp_push {L : List PC} {c : PC} (h : nCell + L.length < XB) (b : Nat) : hp (L ++ [c]) b = if b = nCell + L.length then some c else hp L b := by
  unfold hp
  by_cases e : b = nCell + L.length
  · subst e
    rw [if_pos rfl, if_pos ⟨Nat.le_add_right _ _, h⟩, Nat.add_sub_cancel_left, List.getElem?_append_right (Nat.le_refl _), Nat.sub_self]
    rfl
  · rw [if_neg e]
    by_cases q : nCell ≤ b ∧ b < XB
    · rw [if_pos q, if_pos q]
      by_cases q2 : b - nCell < L.length
      · rw [List.getElem?_append_left q2]
      · rw [List.getElem?_append_right (by omega), List.getElem?_eq_none (l := L) (by omega), List.getElem?_eq_none (by show 1 ≤ _; omega)]
    · rw [if_neg q, if_neg q]
/-- a new cell c at r -/
def N1 (L L1 : List PC) (r : Nat) (c : PC) : Prop := r = nCell + L.length ∧ L1.length = L.length + 1 ∧ ∀ b, hp L1 b = if b = r then some c else hp L b
theorem N1.of {L : List PC} {c : PC} (h : L.length < 900000000) : N1 L (L ++ [c]) (nCell + L.length) c := ⟨rfl, List.length_append, hp_push (by unfold nCell XB; omega)⟩
theorem N1.at {L L1 : List PC} {r : Nat} {c : PC} (h : N1 L L1 r c) : hp L1 r = some c := by rw [h.2.2, if_pos rfl]
theorem N1.w {L L1 L2 : List PC} {r : Nat} {c c' : PC} (h : N1 L L1 r c) (h' : W1 L1 L2 r c') : N1 L L2 r c' := ⟨h.1, h'.1.trans h.2.1, fun b => by
  rw [h'.2]
  by_cases e : b = r
  · rw [if_pos e, if_pos e]
  · rw [if_neg e, if_neg e, h.2.2, if_neg e]⟩
theorem rfB_r {β : Type} {a : Nat} {k : Nat → Option β} : rfB (Value.ref a) k = k a := rfl
theorem nw_x {β : Type} {L : List PC} {c : PC} {k : Nat → List PC → β} : nw L c k = k (nCell + L.length) (L ++ [c]) := rfl
theorem hp_lt {L : List PC} {a : Nat} {c : PC} (h : hp L a = some c) : a < nCell + L.length := by have := hp_bd h; omega
/-- all but what F names is kept -/
def Sf (F : Nat → Prop) (L L' : List PC) : Prop := L.length ≤ L'.length ∧ ∀ b, b < nCell + L.length → ¬ F b → hp L' b = hp L b
def F0_ : Nat → Prop := fun _ => False
section Frames
variable {F G : Nat → Prop} {L L' L1 L2 : List PC} {a r : Nat} {c : PC}
theorem Sf.refl : Sf F L L := ⟨Nat.le_refl _, fun _ _ _ => rfl⟩
theorem Sf.trans (h : Sf F L L1) (h' : Sf F L1 L2) : Sf F L L2 := ⟨Nat.le_trans h.1 h'.1, fun b h1 h2 => (h'.2 b (by have := h.1; omega) h2).trans (h.2 b h1 h2)⟩
theorem Sf.mono (hFG : ∀ b, F b → G b) (h : Sf F L L') : Sf G L L' := ⟨h.1, fun b h1 h2 => h.2 b h1 (fun q => h2 (hFG b q))⟩
theorem Sf.w (h : Sf F L L1) (hw : W1 L1 L2 a c) (ha : F a ∨ nCell + L.length ≤ a) : Sf F L L2 := ⟨by rw [hw.1]; exact h.1, fun b h1 h2 => by
  rw [hw.ne (by rintro rfl; rcases ha with q | q; exact h2 q; omega)]
  exact h.2 b h1 h2⟩
theorem Sf.n (h : Sf F L L1) (hw : N1 L1 L2 r c) : Sf F L L2 := ⟨by rw [hw.2.1]; exact Nat.le_succ_of_le h.1, fun b h1 h2 => by
  rw [hw.2.2, if_neg (by rw [hw.1]; have := h.1; omega)]
  exact h.2 b h1 h2⟩
theorem Sf.at (h : Sf F L L') {b : Nat} {c : PC} (hb : hp L b = some c) (hF : ¬ F b) : hp L' b = some c := by rw [h.2 b (hp_lt hb) hF]; exact hb
theorem Sf.at0 (h : Sf F0_ L L') {b : Nat} {c : PC} (hb : hp L b = some c) : hp L' b = some c := h.at hb id
end Frames
/-! an end with its cost -/
def Ok {α : Type} (o : Option (α × Nat × Nat)) (C T : Nat) (Q : α → Prop) : Prop := ∃ v c s, o = some (v, c, s) ∧ c ≤ C ∧ s ≤ T ∧ Q v
section OkRules
variable {α β : Type} {C T C' T' : Nat} {Q : α → Prop} {R : β → Prop}
theorem Ok.ret {v : α} (h : Q v) : Ok (some (v, 0, 0)) C T Q := ⟨v, 0, 0, rfl, Nat.zero_le _, Nat.zero_le _, h⟩
theorem Ok.mono {o : Option (α × Nat × Nat)} {Q' : α → Prop} (h : Ok o C T Q) (h1 : C ≤ C') (h2 : T ≤ T') (h3 : ∀ v, Q v → Q' v) : Ok o C' T' Q' := by
  obtain ⟨v, c, s, e, a, b, q⟩ := h
  exact ⟨v, c, s, e, Nat.le_trans a h1, Nat.le_trans b h2, h3 v q⟩
theorem Ok.ad {o : Option (α × Nat × Nat)} {c s : Nat} (hc : c ≤ C) (hs : s ≤ T) (h : Ok o (C - c) (T - s) Q) : Ok (adC c s o) C T Q := by
  obtain ⟨v, c', s', e, a, b, q⟩ := h
  refine ⟨v, c' + c, s' + s, ?_, by omega, by omega, q⟩
  rw [e]; rfl
theorem Ok.bind {o : Option (α × Nat × Nat)} {k : α × Nat × Nat → Option (β × Nat × Nat)} {C1 T1 : Nat} (h : Ok o C1 T1 Q) (hC : C1 ≤ C) (hT : T1 ≤ T) (h2 : ∀ v c s, Q v → Ok (k (v, c, s)) (C - C1) (T - T1) R) : Ok (bnO o fun p => adC p.2.1 p.2.2 (k p)) C T R := by
  obtain ⟨v, c, s, e, a, b, q⟩ := h
  rw [e, bnO_s]
  obtain ⟨w, c', s', e', a', b', q'⟩ := h2 v c s q
  refine ⟨w, c' + c, s' + s, ?_, by omega, by omega, q'⟩
  show adC c s (k (v, c, s)) = _
  rw [e']; rfl
/-- a loop that ends or returns -/
theorem Ok.bindT {γ : Type} {o : Option ((γ ⊕ α) × Nat × Nat)} {f : γ → Option (β × Nat × Nat)} {k : α → Option (β × Nat × Nat)} {C1 T1 : Nat} (h : Ok o C1 T1 (fun r => ∃ v, r = .inr v ∧ Q v)) (hC : C1 ≤ C) (hT : T1 ≤ T) (h2 : ∀ v, Q v → Ok (k v) (C - C1) (T - T1) R) : Ok (bnT o f k) C T R := by
  obtain ⟨_, c, s, e, a, b, v, rfl, q⟩ := h
  obtain ⟨w, c', s', e', a', b', q'⟩ := h2 v q
  refine ⟨w, c' + c, s' + s, ?_, by omega, by omega, q'⟩
  unfold bnT
  rw [e, bnO_s]
  show adC c s (k v) = _
  rw [e']; rfl
/-- a loop by its steps left -/
theorem lp_Ok {body : (α → Option (β × Nat × Nat)) → α → Option (β × Nat × Nat)} (I : Nat → α → Prop) (cC cT : Nat → Nat)
    (h0 : ∀ go a, I 0 a → Ok (body go a) (cC 0) (cT 0) R) (hs : ∀ go n a, I (n + 1) a → (∀ a', I n a' → Ok (go a') (cC n) (cT n) R) → Ok (body go a) (cC (n + 1)) (cT (n + 1)) R) :
    ∀ n N a, I n a → n < N → Ok (lp body N a) (cC n) (cT n) R
  | 0, N + 1, a, hI, _ => h0 _ a hI
  | n + 1, N + 1, a, hI, hN => hs _ n a hI (fun a' ha' => lp_Ok I cC cT h0 hs n N a' ha' (by omega))
end OkRules
theorem FU_big : ∀ {n : Nat}, n < 9999 → n < FU := fun h => FU_lt (by omega)
/-! LISTS: the list at a, its row at r, what stands in it -/
def LsH (L : List PC) (a r : Nat) (m : Int) (c : Nat) (xs : List Nat) : Prop :=
  (inR m ∧ xs.length ≤ c ∧ c ≤ 200) ∧ hp L a = some (13, [Value.ref r, V xs.length, V m]) ∧ ((r = XB + 300 + 300 ∧ c = 0) ∨ ∃ vs, hp L r = some (103, vs) ∧ (vs.length = c ∧ 0 < c) ∧ ∀ (i x : Nat), xs[i]? = some x → vs[i]? = some (Value.ref x))
section Lists
variable {S : St} {L L' : List PC} {a r : Nat} {m : Int} {cp : Nat} {xs : List Nat} {F : Nat → Prop}
theorem LsH.sf (h : LsH L a r m cp xs) (hf : Sf F L L') (h1 : ¬ F a) (h2 : r < XB → ¬ F r) : LsH L' a r m cp xs := by
  obtain ⟨p, q, s⟩ := h
  refine ⟨p, hf.at q h1, ?_⟩
  rcases s with s | ⟨vs, s1, s2⟩
  · exact .inl s
  · exact .inr ⟨vs, hf.at s1 (h2 (hp_bd s1).2.1), s2⟩
theorem len_in {n : Nat} (h : n ≤ 10000) : inR (n : Int) := by unfold inR; omega
theorem LsH.len (h : LsH L a r m cp xs) : xs.length ≤ 200 := Nat.le_trans h.1.2.1 h.1.2.2
theorem LsH.nil (h : LsH L a r m cp xs) (q : cp = 0) : xs = [] := List.eq_nil_of_length_eq_zero (by have := h.1.2.1; omega)
theorem LsH.size (h : LsH L a r m cp xs) : gfI L a 13 1 = some (xs.length : Int) := gfI_s h.2.1 rfl (len_in (by have := h.len; omega))
theorem LsH.md (h : LsH L a r m cp xs) : gfI L a 13 2 = some m := gfI_s h.2.1 rfl h.1.1
theorem LsH.row (h : LsH L a r m cp xs) : gfV L a 13 0 = some (Value.ref r) := gfV_s h.2.1 rfl
theorem LsH.k (h : LsH L a r m cp xs) : isK L a 13 = true := isK_s h.2.1 (by decide)
theorem k_size (h : LsH L a r m cp xs) : gn_AL_size a S L = some (xs.length : Int) := by
  unfold gn_AL_size
  rw [h.size, bnO_s]
theorem k_isEmpty (h : LsH L a r m cp xs) : gn_AL_isEmpty a S L = some (decide (xs = [])) := by
  unfold gn_AL_isEmpty
  rw [h.size, bnO_s]
  cases xs with
  | nil => rfl
  | cons x l => exact if_neg (by show ¬ (((x :: l).length : Nat) : Int) = 0; rw [List.length_cons]; omega)
theorem LsH.el (h : LsH L a r m cp xs) {i : Int} {x : Nat} (h0 : 0 ≤ i) (hx : xs[i.toNat]? = some x) : alq L r i = some (Value.ref x) := by
  rcases h.2.2 with ⟨_, e⟩ | ⟨vs, h1, _, h3⟩
  · rw [h.nil e] at hx; cases hx
  · exact alq_s h1 h0 (h3 _ _ hx)
theorem k_get (h : LsH L a r m cp xs) {i : Int} {x : Nat} (h0 : 0 ≤ i) (hx : xs[i.toNat]? = some x) : gn_AL_get a i S L = some (Value.ref x) := by
  have hl := (List.getElem?_eq_some_iff.mp hx).1
  unfold gn_AL_get gn_Objs_checkIndex gn_Preconditions_checkIndex gn_AL_elementData
  rw [h.size, bnO_s, if_neg (by omega), if_pos (by omega), bnO_s, bnO_s, if_pos h.k, h.row, bnO_s]
  show bnO (bnO (alq L r i) _) _ = _
  rw [h.el h0 hx]; rfl
/-- the iterator at t: at c -/
def ItH (L : List PC) (t a : Nat) (m c : Int) : Prop := ∃ l, hp L t = some (14, [V c, l, V m, Value.ref a])
theorem k_iter (h : LsH L a r m cp xs) (hL : L.length < 900000000) : ∃ t L1, gn_AL_iterator a S L = some ((Value.ref t, (S, L1)), 1, 4) ∧ N1 L L1 t (14, [V 0, V (-1), V m, Value.ref a]) := by
  have hn := N1.of (L := L) (c := (14, dfl 14)) hL
  obtain ⟨L1, e1, w1⟩ := pf_s hn.at (f := 3) (Nat.le_of_ble_eq_true rfl) (Value.ref a)
  obtain ⟨L2, e2, w2⟩ := pf_s w1.at (f := 1) (Nat.le_of_ble_eq_true rfl) (V (-1))
  have e3 : gfV L2 (nCell + L.length) 14 3 = some (Value.ref a) := gfV_s w2.at rfl
  have ha : a ≠ nCell + L.length := by have := hp_lt h.2.1; omega
  have h2 : hp L2 a = some (13, [Value.ref r, V xs.length, V m]) := by
    rw [w2.ne ha, w1.ne ha, hn.2.2, if_neg ha]; exact h.2.1
  have e4 : gfI L2 a 13 2 = some m := gfI_s h2 rfl h.1.1
  obtain ⟨L3, e5, w3⟩ := pf_s w2.at (f := 2) (Nat.le_of_ble_eq_true rfl) (V m)
  refine ⟨nCell + L.length, L3, ?_, ((hn.w w1).w w2).w w3⟩
  unfold gn_AL_iterator
  rw [if_pos hL]
  unfold gn_Itr_init
  show adC 1 4 (bnO (bnO (pf (L ++ [(14, dfl 14)]) (nCell + L.length) 14 3 (Value.ref a)) _) _) = _
  rw [e1, bnO_s, e2, bnO_s, e3, bnO_s]
  show adC 1 4 (bnO (bnO (gfI L2 a 13 2) _) _) = _
  rw [e4, bnO_s, e5]; rfl
theorem k_hasNext (h : LsH L a r m cp xs) {t : Nat} {c : Int} (hi : ItH L t a m c) (hc : 0 ≤ c ∧ c ≤ xs.length) : gn_Itr_hasNext t S L = some (decide (c < xs.length)) := by
  obtain ⟨l, hi⟩ := hi
  have b := h.len
  unfold gn_Itr_hasNext
  rw [gfI_s hi rfl (z := c) (by unfold inR; omega), bnO_s, gfV_s hi (f := 3) rfl, bnO_s]
  show bnO (gfI L a 13 1) _ = _
  rw [h.size, bnO_s]
  by_cases e : c = xs.length
  · rw [if_pos e, decide_eq_false (by omega)]
  · rw [if_neg e, decide_eq_true (by omega)]
theorem ItH.k {t : Nat} {c : Int} (hi : ItH L t a m c) : isK L t 14 = true := by
  obtain ⟨l, hi⟩ := hi
  exact isK_s hi (by decide)
theorem k_next (h : LsH L a r m cp xs) {t : Nat} {c : Int} {x : Nat} (hi : ItH L t a m c) (h0 : 0 ≤ c) (hx : xs[c.toNat]? = some x) : ∃ L1, gn_Itr_next t S L = some ((Value.ref x, (S, L1)), 0, 0) ∧ W1 L L1 t (14, [V (c + 1), V c, V m, Value.ref a]) := by
  have hk := hi.k
  obtain ⟨l, hi⟩ := hi
  have b := h.len
  have hl := (List.getElem?_eq_some_iff.mp hx).1
  have hc : inR c := by unfold inR; omega
  obtain ⟨L1, e1, w1⟩ := pf_s hi (f := 0) (Nat.le_of_ble_eq_true rfl) (V (c + 1))
  obtain ⟨L2, e2, w2⟩ := pf_s w1.at (f := 1) (Nat.le_of_ble_eq_true rfl) (V c)
  have e3 : gfV L t 14 3 = some (Value.ref a) := gfV_s hi rfl
  have e4 : gfI L t 14 0 = some c := gfI_s hi rfl hc
  have hw := w1.trans w2
  have ha : a ≠ t := by rintro rfl; rw [h.2.1] at hi; cases hi
  have hr : r ≠ t := by
    rcases h.2.2 with ⟨e, _⟩ | ⟨vs, q, _⟩
    · rw [e]; have := (hp_bd hi).2.1; omega
    · rintro rfl; rw [q] at hi; cases hi
  have h2 : LsH L2 a r m cp xs := by
    refine ⟨h.1, by rw [hw.ne ha]; exact h.2.1, ?_⟩
    rcases h.2.2 with q | ⟨vs, q1, q2⟩
    · exact .inl q
    · exact .inr ⟨vs, by rw [hw.ne hr]; exact q1, q2⟩
  have e5 : ∃ z : Int, alm L r = some z ∧ c < z := by
    rcases h.2.2 with ⟨_, e⟩ | ⟨vs, q1, q2, q3⟩
    · rw [h.nil e] at hx; cases hx
    · have b2 := h.1.2; exact ⟨_, alm_s q1 (by decide) (by decide) (by omega), by omega⟩
  obtain ⟨z, e5, hz⟩ := e5
  refine ⟨L2, ?_, hw⟩
  unfold gn_Itr_next
  rw [if_pos hk]
  unfold gn_Itr_checkForComodification
  rw [e3, bnO_s]
  show bnO (bnO (gfI L a 13 2) _) _ = _
  rw [h.md, bnO_s, gfI_s hi (f := 2) (z := m) rfl h.1.1, bnO_s, if_pos rfl, bnO_s, e4, bnO_s, bnO_s]
  show bnO (gfI L a 13 1) _ = _
  rw [h.size, bnO_s, if_pos (by omega), bnO_s]
  show bnO (gfV L a 13 0) _ = _
  rw [h.row, bnO_s]
  show bnO (alm L r) _ = _
  rw [e5, bnO_s, if_pos hz, nm_x, wr_s (by omega) (by omega), e1, bnO_s, e2, bnO_s, h2.el h0 hx]; rfl
end Lists
