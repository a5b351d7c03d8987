/-! MOVING WORLDS: what the law's code finds at a reference -/
abbrev LZ : Type := St × List PC
/-- the world: the class's cells, then the law's -/
def wz (Z : LZ) : List PC := gm Z.1 ++ Z.2
theorem gm_len (S : St) : (gm S).length = nCell := by unfold gm; rw [List.length_map, List.length_range]
theorem wz_len {Z : LZ} : (wz Z).length = nCell + Z.2.length := by unfold wz; rw [List.length_append, gm_len]
theorem wz_at {Z : LZ} {a : Nat} (h : nCell ≤ a) : (wz Z)[a]? = Z.2[a - nCell]? := by
  unfold wz
  rw [List.getElem?_append_right (by rw [gm_len]; exact h), gm_len]
theorem wz_set {Z : LZ} {a : Nat} {c : PC} (h : nCell ≤ a) : (wz Z).set a c = wz (Z.1, Z.2.set (a - nCell) c) := by
  unfold wz
  rw [List.set_append, if_neg (by rw [gm_len]; omega), gm_len]
theorem wz_push {Z : LZ} {c : PC} : wz Z ++ [c] = wz (Z.1, Z.2 ++ [c]) := by unfold wz; rw [List.append_assoc]
/-- a made cell of the law's -/
def hp (L : List PC) (a : Nat) : Option PC := if nCell ≤ a ∧ a < XB then L[a - nCell]? else none
theorem hp_at {Z : LZ} {a : Nat} {c : PC} (h : hp Z.2 a = some c) : a < XB ∧ (wz Z)[a]? = some c ∧ nCell ≤ a := by
  unfold hp at h
  by_cases q : nCell ≤ a ∧ a < XB
  · rw [if_pos q] at h
    exact ⟨q.2, by rw [wz_at q.1]; exact h, q.1⟩
  · rw [if_neg q] at h; cases h
def tenT (f : Nat → Nat) : List Value := (List.range 100).map (fun j => .int (Int32.ofNat (48 + f j)))
/-- what stands at a reference: a made cell, or a constant that nobody writes -/
def lk (L : List PC) (a : Nat) : Option PC :=
  if a < XB then hp L a
  else if a < XB + nLit then some (16, [.ref (a + 100), .int 0])
  else if XB + 100 ≤ a ∧ a < XB + 100 + nLit then some (101, (bytS.getD (a - (XB + 100)) []).map Value.int)
  else if XB + 300 ≤ a ∧ a < XB + 300 + 256 then some (17, [.int (vb_c (a - (XB + 300)))])
  else if a = XB + 300 + 301 then some (101, tenT (fun j => j % 10))
  else if a = XB + 300 + 302 then some (101, tenT (fun j => j / 10))
  else none
theorem lk_ind {L : List PC} {P : Nat → PC → Prop} (h1 : ∀ a c, hp L a = some c → P a c) (h2 : ∀ j, j < nLit → P (XB + j) (16, [.ref (XB + j + 100), .int 0])) (h3 : ∀ j, j < nLit → P (XB + 100 + j) (101, (bytS.getD j []).map Value.int))
    (h4 : ∀ j, j < 256 → P (XB + 300 + j) (17, [.int (vb_c j)])) (h5 : P (XB + 300 + 301) (101, tenT (fun j => j % 10))) (h6 : P (XB + 300 + 302) (101, tenT (fun j => j / 10))) : ∀ a c, lk L a = some c → P a c := by
  intro a c h
  unfold lk at h
  by_cases q1 : a < XB
  · rw [if_pos q1] at h; exact h1 a c h
  rw [if_neg q1] at h
  by_cases q2 : a < XB + nLit
  · rw [if_pos q2] at h
    cases h
    obtain ⟨j, rfl⟩ : ∃ j, a = XB + j := ⟨a - XB, by omega⟩
    exact h2 j (by omega)
  rw [if_neg q2] at h
  by_cases q3 : XB + 100 ≤ a ∧ a < XB + 100 + nLit
  · rw [if_pos q3] at h
    cases h
    obtain ⟨j, rfl⟩ : ∃ j, a = XB + 100 + j := ⟨a - (XB + 100), by omega⟩
    rw [Nat.add_sub_cancel_left]
    exact h3 j (by omega)
  rw [if_neg q3] at h
  by_cases q4 : XB + 300 ≤ a ∧ a < XB + 300 + 256
  · rw [if_pos q4] at h
    cases h
    obtain ⟨j, rfl⟩ : ∃ j, a = XB + 300 + j := ⟨a - (XB + 300), by omega⟩
    rw [Nat.add_sub_cancel_left]
    exact h4 j (by omega)
  rw [if_neg q4] at h
  by_cases q5 : a = XB + 300 + 301
  · rw [if_pos q5] at h
    cases h
    subst q5
    exact h5
  rw [if_neg q5] at h
  by_cases q6 : a = XB + 300 + 302
  · rw [if_pos q6] at h
    cases h
    subst q6
    exact h6
  · rw [if_neg q6] at h; cases h
/-! fields -/
def vI : Option Value → Option Int
  | some (.int x) => some x.toInt
  | _ => none
def vO : Option Value → Option Value
  | some .null => some .null
  | some (.ref a) => some (.ref a)
  | _ => none
theorem vI_at {o : Option Value} {z : Int} (h : vI o = some z) : o = some (V z) ∧ inR z := by
  unfold vI at h
  split at h
  · cases h
    exact ⟨by show _ = some (Value.int (Int32.ofInt _)); rw [Int32.ofInt_toInt], toInt_in _⟩
  · cases h
theorem vO_at {o : Option Value} {v : Value} (h : vO o = some v) : o = some v ∧ (v = .null ∨ ∃ b, v = .ref b) := by
  unfold vO at h
  split at h
  · cases h; exact ⟨rfl, .inl rfl⟩
  · cases h; exact ⟨rfl, .inr ⟨_, rfl⟩⟩
  · cases h
def cf (o : Option PC) (k f : Nat) : Option Value := match o with
  | some c => if c.1 = k then c.2[f]? else none
  | none => none
theorem cf_at {o : Option PC} {k f : Nat} {v : Value} (h : cf o k f = some v) : ∃ vs, o = some (k, vs) ∧ vs[f]? = some v := by
  unfold cf at h
  split at h
  · rename_i c
    by_cases q : c.1 = k
    · rw [if_pos q] at h
      exact ⟨c.2, by rw [← q], h⟩
    · rw [if_neg q] at h; cases h
  · cases h
def gfI (L : List PC) (a ci f : Nat) : Option Int := vI (cf (lk L a) ci f)
def gfV (L : List PC) (a ci f : Nat) : Option Value := vO (cf (lk L a) ci f)
def pf (L : List PC) (a ci f : Nat) (v : Value) : Option (List PC) := match hp L a with
  | some c => if c.1 = ci ∧ f < c.2.length then some (L.set (a - nCell) (ci, c.2.set f v)) else none
  | none => none
theorem pf_at {L L1 : List PC} {a ci f : Nat} {v : Value} (h : pf L a ci f v = some L1) : ∃ vs, hp L a = some (ci, vs) ∧ f < vs.length ∧ L1 = L.set (a - nCell) (ci, vs.set f v) := by
  unfold pf at h
  split at h
  · rename_i c e
    by_cases q : c.1 = ci ∧ f < c.2.length
    · rw [if_pos q] at h
      cases h
      exact ⟨c.2, by rw [e, ← q.1], q.2, rfl⟩
    · rw [if_neg q] at h; cases h
  · cases h
/-- a reference that isn't null -/
def rfB {β : Type} (v : Value) (k : Nat → Option β) : Option β := match v with
  | .ref a => k a
  | _ => none
theorem rfE {β : Type} {v : Value} {k : Nat → Option β} {x : β} {P : Prop} (h : rfB v k = some x) (p : ∀ a, v = .ref a → k a = some x → P) : P := by
  unfold rfB at h
  split at h
  · exact p _ rfl h
  · cases h
theorem okInt {z : Int} : okV .int (V z) := ⟨rfl, rfl⟩
theorem okObj {C : String} {v : Value} (h : v = .null ∨ ∃ b, v = .ref b) : okV (.object C) v := by
  rcases h with rfl | ⟨b, rfl⟩ <;> exact ⟨rfl, rfl⟩
theorem okArr {t : FieldType} {v : Value} (h : v = .null ∨ ∃ b, v = .ref b) : okV (.array t) v := by
  rcases h with rfl | ⟨b, rfl⟩ <;> exact ⟨rfl, rfl⟩
theorem okBool {z : Int} (h : z = 0 ∨ z = 1) : okV .boolean (V z) := by rcases h with rfl | rfl <;> exact ⟨rfl, rfl⟩
section WXF
variable {sc : SC} {Y : MI} {mc ms pc k n i : Nat} {ls : List (Nat × Value)} {st : List Value} {Z : LZ} {K : Option Value → List PC → Prop}
theorem wx_getI {a ci f : Nat} {z : Int} (h0 : gfI Z.2 a ci f = some z) (hd : decode (mBy Y) pc = .ok (.getfield i, 3)) (hwf : Cond.fieldLink (mNm Y).cls i (TC ci f).1 (TC ci f).2.1 (TC ci f).2.2.1 ∈ gtbl) (hci : ci < 18) (hf : f < NC ci)
    (h : GX sc Y mc ms (pc + 3) ls (V z :: st) (wz Z) k n K) : GX sc Y mc ms pc ls (.ref a :: st) (wz Z) k n K := by
  obtain ⟨h1, -⟩ := vI_at h0
  obtain ⟨vs, h2, h3⟩ := cf_at h1
  refine lk_ind (L := Z.2) (P := fun a c => c = (ci, vs) → GX sc Y mc ms pc ls (.ref a :: st) (wz Z) k n K) (fun a c hc e => ?_) (fun j hj e => ?_) (fun j hj e => ?_) (fun j hj e => ?_) (fun e => ?_) (fun e => ?_) a _ h2 rfl
  · subst e
    obtain ⟨q1, q2, -⟩ := hp_at hc
    exact x_getfield hd hwf hci hf q1 q2 h3 h
  · cases e
    match f, h3, hf, hwf with
    | 1, h3, _, hwf =>
      have e9 : V z = .int 0 := (Option.some.inj h3).symm
      rw [e9] at h
      exact x_strC hd hwf hj h
  · cases e; exact absurd hci (by decide)
  · cases e
    match f, h3, hf, hwf with
    | 0, h3, _, hwf =>
      have e9 : V z = .int (vb_c j) := (Option.some.inj h3).symm
      rw [e9] at h
      exact x_boxv hd hwf hj h
  · cases e; exact absurd hci (by decide)
  · cases e; exact absurd hci (by decide)
theorem wx_getV {a ci f : Nat} {v : Value} (h0 : gfV Z.2 a ci f = some v) (hd : decode (mBy Y) pc = .ok (.getfield i, 3)) (hwf : Cond.fieldLink (mNm Y).cls i (TC ci f).1 (TC ci f).2.1 (TC ci f).2.2.1 ∈ gtbl) (hci : ci < 18) (hf : f < NC ci)
    (h : (v = .null ∨ ∃ b, v = .ref b) → GX sc Y mc ms (pc + 3) ls (v :: st) (wz Z) k n K) : GX sc Y mc ms pc ls (.ref a :: st) (wz Z) k n K := by
  obtain ⟨h1, hv⟩ := vO_at h0
  replace h := h hv
  obtain ⟨vs, h2, h3⟩ := cf_at h1
  refine lk_ind (L := Z.2) (P := fun a c => c = (ci, vs) → GX sc Y mc ms pc ls (.ref a :: st) (wz Z) k n K) (fun a c hc e => ?_) (fun j hj e => ?_) (fun j hj e => ?_) (fun j hj e => ?_) (fun e => ?_) (fun e => ?_) a _ h2 rfl
  · subst e
    obtain ⟨q1, q2, -⟩ := hp_at hc
    exact x_getfield hd hwf hci hf q1 q2 h3 h
  · cases e
    match f, h3, hf, hwf with
    | 0, h3, _, hwf =>
      cases h3
      rw [show XB + j + 100 = XB + 100 + j by omega] at h
      exact x_strV hd hwf hj h
    | 1, h3, _, _ => cases h3; rcases hv with e | ⟨_, e⟩ <;> cases e
  · cases e; exact absurd hci (by decide)
  · cases e
    match f, h3, hf with
    | 0, h3, _ => cases h3; rcases hv with e | ⟨_, e⟩ <;> cases e
  · cases e; exact absurd hci (by decide)
  · cases e; exact absurd hci (by decide)
theorem wx_put {a ci f : Nat} {v : Value} {L1 : List PC} (h0 : pf Z.2 a ci f v = some L1) (hd : decode (mBy Y) pc = .ok (.putfield i, 3)) (hwf : Cond.fieldLink (mNm Y).cls i (TC ci f).1 (TC ci f).2.1 (TC ci f).2.2.1 ∈ gtbl) (hci : ci < 18) (hf : f < NC ci) (hfin : (TC ci f).2.2.2 = false) (hty : okV (TYC ci f) v)
    (h : GX sc Y mc ms (pc + 3) ls st (wz (Z.1, L1)) k n K) : GX sc Y mc ms pc ls (v :: .ref a :: st) (wz Z) k n K := by
  obtain ⟨vs, h1, h2, rfl⟩ := pf_at h0
  obtain ⟨q1, q2, q3⟩ := hp_at h1
  refine x_putfield hd hwf hci hf hfin hty q1 q2 h2 ?_
  rw [wz_set q3]
  exact h
theorem wx_putF {a ci f : Nat} {v : Value} {L1 : List PC} (h0 : pf Z.2 a ci f v = some L1) (hd : decode (mBy Y) pc = .ok (.putfield i, 3)) (hwf : Cond.fieldLink (mNm Y).cls i (TC ci f).1 (TC ci f).2.1 (TC ci f).2.2.1 ∈ gtbl) (hci : ci < 18) (hf : f < NC ci) (hfin : (TC ci f).2.2.2 = true) (hin : (mNm Y).name = "<init>") (hdc : (TC ci f).1 = (mNm Y).cls) (hty : okV (TYC ci f) v)
    (h : GX sc Y mc ms (pc + 3) ls st (wz (Z.1, L1)) k n K) : GX sc Y mc ms pc ls (v :: .ref a :: st) (wz Z) k n K := by
  obtain ⟨vs, h1, h2, rfl⟩ := pf_at h0
  obtain ⟨q1, q2, q3⟩ := hp_at h1
  refine x_putfinal hd hwf hci hf hfin hin hdc hty q1 q2 h2 ?_
  rw [wz_set q3]
  exact h
end WXF
