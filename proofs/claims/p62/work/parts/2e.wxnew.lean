/-! MOVING WORLDS: budgets, new cells, copies, casts, over the law's cells -/
/-- what is used, and what the rest will use, stays within the room -/
def Bd {α : Type} (k n mc ms : Nat) (q : α × Nat × Nat) : Prop := k + q.2.1 ≤ mc ∧ n + q.2.2 ≤ ms
theorem bdA {α : Type} {k n mc ms c s : Nat} {y : α × Nat × Nat} (h : Bd k n mc ms (y.1, y.2.1 + c, y.2.2 + s)) : Bd (k + c) (n + s) mc ms y := by
  have h1 : k + (y.2.1 + c) ≤ mc := h.1
  have h2 : n + (y.2.2 + s) ≤ ms := h.2
  unfold Bd
  omega
theorem bd1 {α : Type} {k n mc ms c s : Nat} {y : α × Nat × Nat} (h : Bd k n mc ms (y.1, y.2.1 + c, y.2.2 + s)) : k + c ≤ mc := by
  have h1 : k + (y.2.1 + c) ≤ mc := h.1
  omega
theorem bd2 {α : Type} {k n mc ms c s : Nat} {y : α × Nat × Nat} (h : Bd k n mc ms (y.1, y.2.1 + c, y.2.2 + s)) : n + s ≤ ms := by
  have h2 : n + (y.2.2 + s) ≤ ms := h.2
  omega
theorem bdk {α : Type} {k n mc ms : Nat} {q : α × Nat × Nat} (h : Bd k n mc ms q) : k ≤ mc := Nat.le_trans (Nat.le_add_right _ _) h.1
theorem bdn {α : Type} {k n mc ms : Nat} {q : α × Nat × Nat} (h : Bd k n mc ms q) : n ≤ ms := Nat.le_trans (Nat.le_add_right _ _) h.2
theorem adE2 {α : Type} {c s : Nat} {o : Option (α × Nat × Nat)} {x : α × Nat × Nat} (h : adC c s o = some x) : ∃ y, o = some y ∧ x = (y.1, y.2.1 + c, y.2.2 + s) := by
  unfold adC at h
  split at h
  · cases h; exact ⟨_, rfl, rfl⟩
  · cases h
theorem lp_ind2 {α β : Type} {body : (α → Option β) → α → Option β} {P : α → β → Prop} (hs : ∀ rec : α → Option β, (∀ a q, rec a = some q → P a q) → ∀ a q, body rec a = some q → P a q) : ∀ n a q, lp body n a = some q → P a q
  | 0, _, _, h => nomatch h
  | n + 1, a, q, h => hs (lp body n) (fun a q h => lp_ind2 hs n a q h) a q h
/-! a row of bytes to copy from: made, or a text constant's -/
def rowB (L : List PC) (a : Nat) : Option (List Value) :=
  if a < XB then (match hp L a with | some c => if c.1 = 101 then some c.2 else none | none => none)
  else if XB + 100 ≤ a ∧ a < XB + 100 + nLit then some ((bytS.getD (a - (XB + 100)) []).map Value.int) else none
def isB (v : Value) : Bool := match v with
  | .int q => decide (-128 ≤ q.toInt ∧ q.toInt ≤ 127)
  | _ => false
theorem isB_at {v : Value} (h : isB v = true) : ∃ q : Int32, v = .int q ∧ -128 ≤ q.toInt ∧ q.toInt ≤ 127 := by
  unfold isB at h
  split at h
  · exact ⟨_, rfl, of_decide_eq_true h⟩
  · cases h
def cpB (L : List PC) (a : Nat) (x : Int) (b : Nat) (y z : Int) : Option (List PC) := match rowB L a, hp L b with
  | some va, some cb => if cb.1 = 101 ∧ 0 ≤ x ∧ 0 ≤ y ∧ 0 ≤ z ∧ x.toNat + z.toNat ≤ va.length ∧ y.toNat + z.toNat ≤ cb.2.length ∧ (List.range z.toNat).all (fun j => isB (va.getD (x.toNat + j) .null)) = true then some (L.set (b - nCell) (101, cpL va cb.2 x.toNat y.toNat z.toNat)) else none
  | _, _ => none
def cpQ (L : List PC) (a : Nat) (x : Int) (b : Nat) (y z : Int) : Option (List PC) := match hp L a, hp L b with
  | some c1, some cb => if c1.1 = 103 ∧ cb.1 = 103 ∧ 0 ≤ x ∧ 0 ≤ y ∧ 0 ≤ z ∧ x.toNat + z.toNat ≤ c1.2.length ∧ y.toNat + z.toNat ≤ cb.2.length ∧ (List.range z.toNat).all (fun j => okE L (c1.2.getD (x.toNat + j) .null)) = true then some (L.set (b - nCell) (103, cpL c1.2 cb.2 x.toNat y.toNat z.toNat)) else none
  | _, _ => none
/-- the contents of a row of numbers to be cloned -/
def cln (L : List PC) (t a : Nat) : Option (List Value) := match hp L a with
  | some c => if c.1 = 100 + t ∧ c.2.all (fun v => match v with | .int q => fits (aT t) (.int q) | _ => false) = true then some c.2 else none
  | none => none
theorem cln_at {L : List PC} {t a : Nat} {vs : List Value} (h : cln L t a = some vs) : hp L a = some (100 + t, vs) ∧ ∀ j, j < vs.length → ∃ q, vs.getD j .null = .int q ∧ fits (aT t) (.int q) = true := by
  unfold cln at h
  split at h
  · rename_i c e
    by_cases q : c.1 = 100 + t ∧ c.2.all (fun v => match v with | .int q => fits (aT t) (.int q) | _ => false) = true
    · rw [if_pos q] at h
      cases h
      refine ⟨by rw [e, ← q.1], fun j hj => ?_⟩
      have h2 := List.all_eq_true.mp q.2 _ (List.getElem_mem hj)
      rw [List.getD_eq_getElem?_getD, List.getElem?_eq_getElem hj]
      show ∃ q, c.2[j] = .int q ∧ _
      generalize c.2[j] = v at h2
      cases v with
      | int x => exact ⟨x, rfl, h2⟩
      | _ => cases h2
    · rw [if_neg q] at h; cases h
  · cases h
section WXN
variable {sc : SC} {Y : MI} {mc ms pc k n i : Nat} {ls : List (Nat × Value)} {st : List Value} {Z : LZ} {K : Option Value → List PC → Prop}
theorem lX {N : Nat} (h : N < 900000000) : nCell + N < XB := by
  have h1 : nCell ≤ 1000 := Nat.le_of_ble_eq_true rfl
  unfold XB
  omega
theorem wx_new {ci N : Nat} (hL : Z.2.length < 900000000) (hN : NC ci = N) (hd : decode (mBy Y) pc = .ok (.new i, 3)) (hci : ci < 18) (h1 : Cond.classLink (mNm Y).cls i (RC ci) ∈ gtbl) (h2 : Cond.instantiable (RC ci) (NC ci) ∈ gtbl) (h3 : Cond.initialized (RC ci) ∈ gtbl) (hk : k + 1 ≤ mc) (hn : n + N ≤ ms)
    (h : GX sc Y mc ms (pc + 3) ls (.ref (nCell + Z.2.length) :: st) (wz (Z.1, Z.2 ++ [(ci, dfl ci)])) (k + 1) (n + N) K) : GX sc Y mc ms pc ls st (wz Z) k n K := by
  subst hN
  rw [← wz_push, ← wz_len] at h
  exact x_new hd hci h1 h2 h3 hk hn (by rw [wz_len]; exact lX hL) h
theorem wx_newa_int {z : Int} (hL : Z.2.length < 900000000) (hz : inR z) (h0 : 0 ≤ z ∧ z ≤ 16384) (hd : decode (mBy Y) pc = .ok (.newarray .int, 2)) (h1 : Cond.arrayClass (newarray.typeOf .int) ∈ gtbl) (hk : k + 1 ≤ mc) (hn : n + z.toNat ≤ ms)
    (h : GX sc Y mc ms (pc + 2) ls (.ref (nCell + Z.2.length) :: st) (wz (Z.1, Z.2 ++ [(100, List.replicate z.toNat (.int 0))])) (k + 1) (n + z.toNat) K) : GX sc Y mc ms pc ls (V z :: st) (wz Z) k n K := by
  have e0 := i_ix hz
  rw [← wz_push, ← wz_len] at h
  exact x_newarr_int hd h1 (by rw [e0]; exact h0.1) (by rw [e0]) (by omega) hk hn (by rw [wz_len]; exact lX hL) h
theorem wx_newa_byte {z : Int} (hL : Z.2.length < 900000000) (hz : inR z) (h0 : 0 ≤ z ∧ z ≤ 16384) (hd : decode (mBy Y) pc = .ok (.newarray .byte, 2)) (h1 : Cond.arrayClass (newarray.typeOf .byte) ∈ gtbl) (hk : k + 1 ≤ mc) (hn : n + z.toNat ≤ ms)
    (h : GX sc Y mc ms (pc + 2) ls (.ref (nCell + Z.2.length) :: st) (wz (Z.1, Z.2 ++ [(101, List.replicate z.toNat (.int 0))])) (k + 1) (n + z.toNat) K) : GX sc Y mc ms pc ls (V z :: st) (wz Z) k n K := by
  have e0 := i_ix hz
  rw [← wz_push, ← wz_len] at h
  exact x_newarr_byte hd h1 (by rw [e0]; exact h0.1) (by rw [e0]) (by omega) hk hn (by rw [wz_len]; exact lX hL) h
theorem wx_newa_bool {z : Int} (hL : Z.2.length < 900000000) (hz : inR z) (h0 : 0 ≤ z ∧ z ≤ 16384) (hd : decode (mBy Y) pc = .ok (.newarray .boolean, 2)) (h1 : Cond.arrayClass (newarray.typeOf .boolean) ∈ gtbl) (hk : k + 1 ≤ mc) (hn : n + z.toNat ≤ ms)
    (h : GX sc Y mc ms (pc + 2) ls (.ref (nCell + Z.2.length) :: st) (wz (Z.1, Z.2 ++ [(102, List.replicate z.toNat (.int 0))])) (k + 1) (n + z.toNat) K) : GX sc Y mc ms pc ls (V z :: st) (wz Z) k n K := by
  have e0 := i_ix hz
  rw [← wz_push, ← wz_len] at h
  exact x_newarr_bool hd h1 (by rw [e0]; exact h0.1) (by rw [e0]) (by omega) hk hn (by rw [wz_len]; exact lX hL) h
theorem wx_newq {z : Int} (hL : Z.2.length < 900000000) (hz : inR z) (h0 : 0 ≤ z ∧ z ≤ 16384) (hd : decode (mBy Y) pc = .ok (.anewarray i, 3)) (h1 : Cond.classLink (mNm Y).cls i "java/lang/Object" ∈ gtbl) (hk : k + 1 ≤ mc) (hn : n + z.toNat ≤ ms)
    (h : GX sc Y mc ms (pc + 3) ls (.ref (nCell + Z.2.length) :: st) (wz (Z.1, Z.2 ++ [(103, List.replicate z.toNat .null)])) (k + 1) (n + z.toNat) K) : GX sc Y mc ms pc ls (V z :: st) (wz Z) k n K := by
  have e0 := i_ix hz
  rw [← wz_push, ← wz_len] at h
  exact x_anewarr hd h1 (by rw [e0]; exact h0.1) (by rw [e0]) (by omega) hk hn (by rw [wz_len]; exact lX hL) h
theorem wx_clone {a t : Nat} {vs : List Value} {ad : String} (hL : Z.2.length < 900000000) (hc : cln Z.2 t a = some vs) (hd : decode (mBy Y) pc = .ok (.invokevirtual i, 3)) (ht : t < 3) (hnm : "[" ++ (aT t).toString = ad) (hw0 : Cond.methodLink (mNm Y).cls i ⟨ad, "clone", "()Ljava/lang/Object;"⟩ ∈ gtbl) (hw1 : Cond.sameMethod ad "java/lang/Object" "clone" "()Ljava/lang/Object;" ∈ gtbl) (hw2 : Cond.native ⟨"java/lang/Object", "clone", "()Ljava/lang/Object;"⟩ ∈ gtbl) (hw3 : Cond.instanceMethod ⟨"java/lang/Object", "clone", "()Ljava/lang/Object;"⟩ ∈ gtbl)
    (hw4 : Cond.selects ad ⟨ad, "clone", "()Ljava/lang/Object;"⟩ ⟨"java/lang/Object", "clone", "()Ljava/lang/Object;"⟩ ∈ gtbl) (hcl : (ad, "java/lang/Cloneable") ∈ castT) (hF : 1 ≤ mFr Y) (hr8 : (st.map fun v => v.category).sum + 14 ≤ mWd Y)
    (hk : k + 1 ≤ mc) (hn : n + vs.length ≤ ms) (h : GX sc Y mc ms (pc + 3) ls (.ref (nCell + Z.2.length) :: st) (wz (Z.1, Z.2 ++ [(100 + t, vs)])) (k + 1) (n + vs.length) K) : GX sc Y mc ms pc ls (.ref a :: st) (wz Z) k n K := by
  obtain ⟨h1, h2⟩ := cln_at hc
  obtain ⟨q1, q2, -⟩ := hp_at h1
  rw [← wz_push, ← wz_len] at h
  exact x_clone hd ht hnm hw0 hw1 hw2 hw3 hw4 hcl hF hr8 q1 q2 h2 hk hn (by rw [wz_len]; exact lX hL) h
theorem wx_copyB {a b : Nat} {x y z : Int} {L1 : List PC} (h0 : cpB Z.2 a x b y z = some L1) (hx : inR x) (hy : inR y) (hz : inR z) (hd : decode (mBy Y) pc = .ok (.invokestatic i, 3)) (hw0 : Cond.methodLink (mNm Y).cls i arraycopyName ∈ gtbl) (hF : 1 ≤ mFr Y) (hr8 : (st.map fun v => v.category).sum + 18 ≤ mWd Y)
    (h : GX sc Y mc ms (pc + 3) ls st (wz (Z.1, L1)) k n K) : GX sc Y mc ms pc ls (V z :: V y :: .ref b :: V x :: .ref a :: st) (wz Z) k n K := by
  have ex := i_ix hx
  have ey := i_ix hy
  have ez := i_ix hz
  unfold cpB at h0
  split at h0
  · rename_i va cb e1 e2
    split at h0
    · rename_i q
      obtain ⟨p1, p2, p3, p4, p5, p6, p7⟩ := q
      cases h0
      have hb := hp_at (Z := Z) (a := b) (c := (101, cb.2)) (by rw [e2, ← p1])
      have hall : ∀ j, j < z.toNat → ∃ q : Int32, va.getD (x.toNat + j) .null = .int q ∧ -128 ≤ q.toInt ∧ q.toInt ≤ 127 := fun j hj => isB_at (List.all_eq_true.mp p7 j (List.mem_range.mpr hj))
      rw [← wz_set hb.2.2] at h
      unfold rowB at e1
      by_cases q1 : a < XB
      · rw [if_pos q1] at e1
        split at e1
        · rename_i c0 e3
          split at e1
          · rename_i p8
            cases e1
            have ha := hp_at (Z := Z) (a := a) (c := (101, c0.2)) (by rw [e3, ← p8])
            refine x_copyb hd hw0 hF hr8 ha.1 hb.1 ha.2.1 hb.2.1 (by rw [ex]; exact p2) (by rw [ey]; exact p3) (by rw [ez]; exact p4) (by rw [ex, ez]; exact p5) (by rw [ey, ez]; exact p6) (by rw [ex, ez]; exact hall) ?_
            rw [ex, ey, ez]
            exact h
          · cases e1
        · cases e1
      · rw [if_neg q1] at e1
        split at e1
        · rename_i q2
          have e1 := Option.some.inj e1
          subst e1
          obtain ⟨j, rfl⟩ : ∃ j, a = XB + 100 + j := ⟨a - (XB + 100), by omega⟩
          rw [Nat.add_sub_cancel_left] at p5 hall h
          have hj : j < nLit := by omega
          refine x_copyt hd hw0 hF hr8 hj hb.1 hb.2.1 (by rw [ex]; exact p2) (by rw [ey]; exact p3) (by rw [ez]; exact p4) (by rw [ex, ez, ← lit_len j hj]; rw [List.length_map] at p5; exact p5) (by rw [ey, ez]; exact p6) (fun t ht => ?_) (lit_len j hj) ?_
          · rw [ez] at ht
            obtain ⟨q, q1, q2⟩ := hall t ht
            have hlt : x.toNat + t < (bytS.getD j []).length := by rw [List.length_map] at p5; omega
            rw [ex]
            rw [List.getD_eq_getElem?_getD, List.getElem?_map, List.getElem?_eq_getElem hlt] at q1
            rw [List.getD_eq_getElem?_getD, List.getElem?_eq_getElem hlt]
            have e7 : (bytS.getD j [])[x.toNat + t] = q := Value.int.inj q1
            show -128 ≤ ((bytS.getD j [])[x.toNat + t]).toInt ∧ ((bytS.getD j [])[x.toNat + t]).toInt ≤ 127
            rw [e7]
            exact q2
          · rw [ex, ey, ez]
            exact h
        · cases e1
    · cases h0
  · cases h0
theorem wx_copyQ {a b : Nat} {x y z : Int} {L1 : List PC} (h0 : cpQ Z.2 a x b y z = some L1) (hx : inR x) (hy : inR y) (hz : inR z) (hd : decode (mBy Y) pc = .ok (.invokestatic i, 3)) (hw0 : Cond.methodLink (mNm Y).cls i arraycopyName ∈ gtbl) (hF : 1 ≤ mFr Y) (hr8 : (st.map fun v => v.category).sum + 18 ≤ mWd Y)
    (h : GX sc Y mc ms (pc + 3) ls st (wz (Z.1, L1)) k n K) : GX sc Y mc ms pc ls (V z :: V y :: .ref b :: V x :: .ref a :: st) (wz Z) k n K := by
  have ex := i_ix hx
  have ey := i_ix hy
  have ez := i_ix hz
  unfold cpQ at h0
  split at h0
  · rename_i c1 cb e1 e2
    split at h0
    · rename_i q
      obtain ⟨p0, p1, p2, p3, p4, p5, p6, p7⟩ := q
      cases h0
      have ha := hp_at (Z := Z) (a := a) (c := (103, c1.2)) (by rw [e1, ← p0])
      have hb := hp_at (Z := Z) (a := b) (c := (103, cb.2)) (by rw [e2, ← p1])
      rw [← wz_set hb.2.2] at h
      refine x_copyq hd hw0 hF hr8 ha.1 hb.1 ha.2.1 hb.2.1 (by rw [ex]; exact p2) (by rw [ey]; exact p3) (by rw [ez]; exact p4) (by rw [ex, ez]; exact p5) (by rw [ey, ez]; exact p6) (fun j hj => ?_) ?_
      · rw [ez] at hj
        rw [ex]
        exact okE_at (List.all_eq_true.mp p7 j (List.mem_range.mpr hj))
      · rw [ex, ey, ez]
        exact h
    · cases h0
  · cases h0
end WXN
