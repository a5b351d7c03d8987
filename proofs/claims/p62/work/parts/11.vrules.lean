
/-! MASKED WORLDS: the first X.1 cells of the graph; those of the mask hold the numbers of S, the others what X says -/
abbrev XT : Type := Nat × (Nat → Bool) × (Nat → PC) × Bool
def gmX (X : XT) (S : St) : List PC := (List.range X.1).map (fun a => if X.2.1 a = true then (kd a, sl S a) else X.2.2.1 a)
def WX (X : XT) (S : St) : PS := (gmX X S, X.2.2.2)
def okF (a f : Nat) : Prop := (∃ k l, (kd a, f, k, l) ∈ fkT) ∨ (kd a = 105 ∧ f < ln a)
def Cl (X : XT) : Prop := (∀ a, a < X.1 → X.2.1 a = true → a < nCell) ∧ ∀ a f, a < X.1 → X.2.1 a = true → okF a f → tgt a f < X.1 ∧ X.2.1 (tgt a f) = true
def HC (X : XT) (c a : Nat) : Prop := Cl X ∧ a < X.1 ∧ X.2.1 a = true ∧ kd a = c
def HA (X : XT) (t n a : Nat) : Prop := Cl X ∧ a < X.1 ∧ X.2.1 a = true ∧ kd a = 100 + t ∧ ln a = n
theorem HC.is {X : XT} {c a : Nat} (h : HC X c a) : IsC c a := ⟨h.1.1 _ h.2.1 h.2.2.1, h.2.2.2⟩
theorem HA.is {X : XT} {t n a : Nat} (h : HA X t n a) : IsA t n a := ⟨h.1.1 _ h.2.1 h.2.2.1, h.2.2.2.1, h.2.2.2.2⟩
theorem HC.lt {X : XT} {c a : Nat} (h : HC X c a) : a < XB := lt_XB h.is.1
theorem HA.lt {X : XT} {t n a : Nat} (h : HA X t n a) : a < XB := lt_XB h.is.1
theorem HC.go {X : XT} {c a f c' l : Nat} (h : HC X c a) (hm : (c, f, c', l) ∈ fkT) (h2 : IsC c' (tgt a f)) : HC X c' (tgt a f) :=
  have q := h.1.2 a f h.2.1 h.2.2.1 (.inl ⟨c', l, by rw [h.2.2.2]; exact hm⟩)
  ⟨h.1, q.1, q.2, h2.2⟩
theorem HC.goA {X : XT} {c a f t n k l : Nat} (h : HC X c a) (hm : (c, f, k, l) ∈ fkT) (h2 : IsA t n (tgt a f)) : HA X t n (tgt a f) :=
  have q := h.1.2 a f h.2.1 h.2.2.1 (.inl ⟨k, l, by rw [h.2.2.2]; exact hm⟩)
  ⟨h.1, q.1, q.2, h2.2.1, h2.2.2⟩
theorem gmX_at {X : XT} {S : St} {a : Nat} (h : a < X.1) (hm : X.2.1 a = true) : (gmX X S)[a]? = some (kd a, sl S a) := by
  unfold gmX
  rw [List.getElem?_map, List.getElem?_range h]
  show some (if X.2.1 a = true then _ else _) = _
  rw [if_pos hm]
theorem HC.at {X : XT} {c a : Nat} (h : HC X c a) (S : St) : (gmX X S)[a]? = some (c, sl S a) := by
  rw [gmX_at h.2.1 h.2.2.1, h.2.2.2]
theorem HA.at {X : XT} {t n a : Nat} (h : HA X t n a) (S : St) : (gmX X S)[a]? = some (100 + t, sl S a) := by
  rw [gmX_at h.2.1 h.2.2.1, h.2.2.2.1]
theorem gmX_set {X : XT} {S S' : St} {a : Nat} {c' : PC} (hm : X.2.1 a = true) (h1 : (kd a, sl S' a) = c') (h2 : ∀ b, b ≠ a → sl S' b = sl S b) : gmX X S' = (gmX X S).set a c' := by
  apply List.ext_getElem?
  intro j
  unfold gmX
  rw [List.getElem?_set]
  simp only [List.getElem?_map, List.length_map, List.length_range]
  by_cases hj : a = j
  · subst hj
    rw [if_pos rfl]
    by_cases hl : a < X.1
    · rw [if_pos hl, List.getElem?_range hl]
      show some (if X.2.1 a = true then _ else _) = _
      rw [if_pos hm, h1]
    · rw [if_neg hl, List.getElem?_eq_none (by rw [List.length_range]; omega)]; rfl
  · rw [if_neg hj]
    by_cases hl : j < X.1
    · rw [List.getElem?_range hl]
      show some (if X.2.1 j = true then (kd j, sl S' j) else _) = some (if X.2.1 j = true then (kd j, sl S j) else _)
      rw [h2 j (fun e => hj e.symm)]
    · rw [List.getElem?_eq_none (by rw [List.length_range]; omega)]; rfl
/-- what a change of the whole graph is, is one of a masked world too -/
theorem gmX_of {X : XT} {S S' : St} {a : Nat} {c' : PC} (ha : a < nCell) (hm : X.2.1 a = true) (h2 : ∀ b, b ≠ a → sl S' b = sl S b) (h : gm S' = (gm S).set a c') : gmX X S' = (gmX X S).set a c' := by
  refine gmX_set hm ?_ h2
  have e := congrArg (fun l : List PC => l[a]?) h
  simp only [gm_at ha] at e
  rw [List.getElem?_set, if_pos rfl] at e
  split at e
  · exact Option.some.inj e
  · cases e
theorem gmX_uIC {X : XT} {S : St} {c a f : Nat} {x : Int32} (h : HC X c a) (hc : c < 18) (ht : TYC c f = .int) : gmX X (uI S a f x) = (gmX X S).set a (c, (sl S a).set f (.int x)) :=
  gmX_of h.is.1 h.2.2.1 (fun b hb => sl_congr (fun f' => uI_ne (fun q => hb q.1)) (fun _ => rfl) (fun _ => rfl)) (gm_uIC h.is hc ht)
theorem gmX_uLC {X : XT} {S : St} {c a f : Nat} {x : Int64} (h : HC X c a) (hc : c < 18) (ht : TYC c f = .long) : gmX X (uL S a f x) = (gmX X S).set a (c, (sl S a).set f (.long x)) :=
  gmX_of h.is.1 h.2.2.1 (fun b hb => sl_congr (fun _ => rfl) (fun f' => uL_ne (fun q => hb q.1)) (fun _ => rfl)) (gm_uLC h.is hc ht)
theorem gmX_uIA {X : XT} {S : St} {t n a i : Nat} {x : Int32} (h : HA X t n a) (ht : t < 3) : gmX X (uI S a i x) = (gmX X S).set a (100 + t, (sl S a).set i (.int x)) :=
  gmX_of h.is.1 h.2.2.1 (fun b hb => sl_congr (fun f' => uI_ne (fun q => hb q.1)) (fun _ => rfl) (fun _ => rfl)) (gm_uIA h.is ht)
theorem gmX_uLA {X : XT} {S : St} {n a i : Nat} {x : Int64} (h : HA X 3 n a) : gmX X (uL S a i x) = (gmX X S).set a (103, (sl S a).set i (.long x)) :=
  gmX_of h.is.1 h.2.2.1 (fun b hb => sl_congr (fun _ => rfl) (fun f' => uL_ne (fun q => hb q.1)) (fun _ => rfl)) (gm_uLA h.is)
theorem gmX_uDA {X : XT} {S : St} {n a i : Nat} {x : UInt64} (h : HA X 4 n a) : gmX X (uD S a i x) = (gmX X S).set a (104, (sl S a).set i (.double x)) :=
  gmX_of h.is.1 h.2.2.1 (fun b hb => sl_congr (fun _ => rfl) (fun _ => rfl) (fun f' => uD_ne (fun q => hb q.1))) (gm_uDA h.is)
def X0 : XT := (nCell, fun _ => true, fun _ => (0, []), false)
/-! INTEGERS -/
def wr (z : Int) : Int := (Int32.ofInt z).toInt
def wl (z : Int) : Int := (Int64.ofInt z).toInt
def bi (b : Bool) : Int := if b = true then 1 else 0
def i_and (a b : Int) : Int := (Int32.ofInt a &&& Int32.ofInt b).toInt
def i_or (a b : Int) : Int := (Int32.ofInt a ||| Int32.ofInt b).toInt
def i_shl (a b : Int) : Int := (Int32.ofInt a <<< (Int32.ofInt b &&& 31)).toInt
def i_shr (a b : Int) : Int := (Int32.ofInt a >>> (Int32.ofInt b &&& 31)).toInt
def i_ushr (a b : Int) : Int := ((Int32.ofInt a).toUInt32 >>> ((Int32.ofInt b).toUInt32 &&& Int32.toUInt32 31)).toInt32.toInt
def i_b (a : Int) : Int := ((Int32.ofInt a).toInt8.toInt32).toInt
def i_nb (a : Int) : Int := (vp_nar .byte (Int32.ofInt a)).toInt
def i_nz (a : Int) : Int := (vp_nar .boolean (Int32.ofInt a)).toInt
def i_d (a : Int) : UInt64 := FP.i2d (Int32.ofInt a)
theorem toInt_in (x : Int32) : inR x.toInt := by have h1 := Int32.le_toInt x; have h2 := Int32.toInt_lt x; unfold inR; constructor <;> omega
theorem toInt_inL (x : Int64) : inL x.toInt := by have h1 := Int64.le_toInt x; have h2 := Int64.toInt_lt x; unfold inL; constructor <;> omega
theorem wr_in (z : Int) : inR (wr z) := toInt_in _
theorem wl_in (z : Int) : inL (wl z) := toInt_inL _
theorem gl_in (S : St) (a f : Nat) : inL (gl S a f) := toInt_inL _
theorem bi_in (b : Bool) : inR (bi b) := by cases b <;> (unfold inR bi; constructor <;> decide)
theorem V_wr (z : Int) : V (wr z) = V z := by show Value.int (Int32.ofInt (Int32.ofInt z).toInt) = _; rw [Int32.ofInt_toInt]
theorem J_wl (z : Int) : J (wl z) = J z := by show Value.long (Int64.ofInt (Int64.ofInt z).toInt) = _; rw [Int64.ofInt_toInt]
theorem Vt (x : Int32) : V x.toInt = .int x := by show Value.int (Int32.ofInt x.toInt) = _; rw [Int32.ofInt_toInt]
theorem wr_id {z : Int} (h : inR z) : wr z = z := I_toInt h
theorem wl_id {z : Int} (h : inL z) : wl z = z := L_toInt h
theorem inR_L {z : Int} (h : inR z) : inL z := ⟨by have := h.1; omega, by have := h.2; omega⟩
def kR (z : Int) : Bool := decide (-2147483648 ≤ z) && decide (z < 2147483648)
theorem inRk {z : Int} (h : kR z = true) : inR z := by
  unfold kR at h
  rw [Bool.and_eq_true, decide_eq_true_eq, decide_eq_true_eq] at h
  exact h
theorem inLk {z : Int} (h : kR z = true) : inL z := inR_L (inRk h)
theorem narB (b : Bool) : narrow .boolean (V (bi b)) = V (bi b) := by cases b <;> rfl
theorem V_bi {e : Int} (h : e = 0 ∨ e = 1) : V e = V (bi (decide (e = 1))) := by rcases h with rfl | rfl <;> rfl
/-! STEPS of the functions -/
def nm {α β : Type} (a : α) (k : α → β) : β := k a
def bnO {α β : Type} (o : Option α) (k : α → Option β) : Option β := match o with
  | none => none
  | some a => k a
def bnS {α β γ : Type} (o : Option (α ⊕ β)) (k1 : α → Option γ) (k2 : β → Option γ) : Option γ := match o with
  | none => none
  | some (.inl a) => k1 a
  | some (.inr b) => k2 b
def lp {α β : Type} (body : (α → Option β) → α → Option β) : Nat → α → Option β
  | 0, _ => none
  | n + 1, a => body (lp body n) a
def FU : Nat := 20000
theorem nmE {α β : Type} {a : α} {k : α → Option β} {x : β} {P : Prop} (h : nm a k = some x) (p : ∀ b, b = a → k b = some x → P) : P := p a rfl h
theorem bnE {α β : Type} {o : Option α} {k : α → Option β} {x : β} {P : Prop} (h : bnO o k = some x) (p : ∀ b, o = some b → k b = some x → P) : P := by
  cases o with
  | none => cases h
  | some b => exact p b rfl h
theorem bnSE {α β γ : Type} {o : Option (α ⊕ β)} {k1 : α → Option γ} {k2 : β → Option γ} {x : γ} {P : Prop} (h : bnS o k1 k2 = some x) (p1 : ∀ b, o = some (.inl b) → k1 b = some x → P) (p2 : ∀ b, o = some (.inr b) → k2 b = some x → P) : P := by
  cases o with
  | none => cases h
  | some b =>
    cases b with
    | inl b => exact p1 b rfl h
    | inr b => exact p2 b rfl h
theorem ifE {β : Type} {c : Prop} [Decidable c] {a b : Option β} {x : β} {P : Prop} (h : (if c then a else b) = some x) (p : c → a = some x → P) (q : ¬ c → b = some x → P) : P := by
  by_cases hc : c
  · rw [if_pos hc] at h; exact p hc h
  · rw [if_neg hc] at h; exact q hc h
theorem gdE {β : Type} {c : Prop} [Decidable c] {a : Option β} {x : β} {P : Prop} (h : (if c then a else none) = some x) (p : c → a = some x → P) : P :=
  ifE h p (fun _ q => nomatch q)
theorem lp_ind {α β : Type} {body : (α → Option β) → α → Option β} {q : β} {P : α → Prop} (hs : ∀ rec : α → Option β, (∀ a, rec a = some q → P a) → ∀ a, body rec a = some q → P a) : ∀ n a, lp body n a = some q → P a
  | 0, _, h => nomatch h
  | n + 1, a, h => hs (lp body n) (fun a h => lp_ind hs n a h) a h
theorem lp_succ {α β : Type} {body : (α → Option β) → α → Option β} {n : Nat} {a : α} : lp body (n + 1) a = body (lp body n) a := rfl
theorem dK {l : List (Nat × Instr × Nat)} {code : ByteArray} (D : ∀ q ∈ l, decode code q.1 = .ok (q.2.1, q.2.2)) (j : Nat) {a n : Nat} {i : Instr} (h : l[j]? = some (a, i, n)) : decode code a = .ok (i, n) := D (a, i, n) (List.mem_of_getElem? h)
theorem fitK {Y Y' : MI} (h : (Nat.ble (mFr Y' + 1) (mFr Y) && Nat.ble (8 + (mLo Y' + 11) + mWd Y') (mWd Y)) = true) : Fits Y Y' := by
  rw [Bool.and_eq_true] at h
  exact ⟨Nat.le_of_ble_eq_true h.1, Nat.le_of_ble_eq_true h.2⟩
/-! WHAT METHODS END WITH -/
def KI (X : XT) (r : Int) (S : St) : RK → PS → Prop := fun rk w => rk = .inl (some (V r)) ∧ inR r ∧ w = WX X S
def KB (X : XT) (b : Bool) (S : St) : RK → PS → Prop := fun rk w => rk = .inl (some (V (bi b))) ∧ w = WX X S
def KJ (X : XT) (r : Int) (S : St) : RK → PS → Prop := fun rk w => rk = .inl (some (J r)) ∧ inL r ∧ w = WX X S
def KD (X : XT) (r : UInt64) (S : St) : RK → PS → Prop := fun rk w => rk = .inl (some (.double r)) ∧ w = WX X S
def KU (X : XT) (S : St) : RK → PS → Prop := fun rk w => rk = .inl none ∧ w = WX X S
def exN : Nat → String
  | 1 => "java/lang/IndexOutOfBoundsException"
  | 2 => "java/lang/IllegalArgumentException"
  | _ => "java/lang/ArithmeticException"
/-- .. that may throw: by which number -/
def KT (X : XT) (e : Nat) (S : St) (K : RK → PS → Prop) : RK → PS → Prop := fun rk w => if e = 0 then K rk w else rk = .inr (exN e) ∧ w = WX X S
section VRules
variable {E : EV} {Y : MI} {X : XT} {mc ms pc k n : Nat} {ls : List (Nat × Value)} {st : List Value} {S : St} {K : RK → PS → Prop}

theorem vg_getI {i a ci f : Nat} (hd : decode (mBy Y) pc = .ok (.getfield i, 3)) (hw : Cond.fieldLink (mNm Y).cls i (TC ci f).1 (TC ci f).2.1 (TC ci f).2.2.1 ∈ gtbl) (hc : HC X ci a) (hci : ci < 18) (hf : f < NC ci) (ht : TYC ci f = .int) (h : Go E Y mc ms (pc + 3) ls (V (g S a f) :: st) (WX X S) k n K) : Go E Y mc ms (pc) ls (.ref a :: st) (WX X S) k n K := g_getfield hd hw hci hf hc.lt (hc.at S) (sl_C hc.is hci hf) (by rw [fv_int hc.is ht, V_g]; exact h)
theorem vg_getL {i a ci f : Nat} (hd : decode (mBy Y) pc = .ok (.getfield i, 3)) (hw : Cond.fieldLink (mNm Y).cls i (TC ci f).1 (TC ci f).2.1 (TC ci f).2.2.1 ∈ gtbl) (hc : HC X ci a) (hci : ci < 18) (hf : f < NC ci) (ht : TYC ci f = .long) (h : Go E Y mc ms (pc + 3) ls (J (gl S a f) :: st) (WX X S) k n K) : Go E Y mc ms (pc) ls (.ref a :: st) (WX X S) k n K := g_getfield hd hw hci hf hc.lt (hc.at S) (sl_C hc.is hci hf) (by rw [fv_long hc.is ht, J_g]; exact h)
theorem vg_getO {i a ci f : Nat} {C : String} (hd : decode (mBy Y) pc = .ok (.getfield i, 3)) (hw : Cond.fieldLink (mNm Y).cls i (TC ci f).1 (TC ci f).2.1 (TC ci f).2.2.1 ∈ gtbl) (hc : HC X ci a) (hci : ci < 18) (hf : f < NC ci) (ht : TYC ci f = .object C) (h : Go E Y mc ms (pc + 3) ls (.ref (tgt a f) :: st) (WX X S) k n K) : Go E Y mc ms (pc) ls (.ref a :: st) (WX X S) k n K := g_getfield hd hw hci hf hc.lt (hc.at S) (sl_C hc.is hci hf) (by rw [fv_obj hc.is ht]; exact h)
theorem vg_getA {i a ci f : Nat} {C : FieldType} (hd : decode (mBy Y) pc = .ok (.getfield i, 3)) (hw : Cond.fieldLink (mNm Y).cls i (TC ci f).1 (TC ci f).2.1 (TC ci f).2.2.1 ∈ gtbl) (hc : HC X ci a) (hci : ci < 18) (hf : f < NC ci) (ht : TYC ci f = .array C) (h : Go E Y mc ms (pc + 3) ls (.ref (tgt a f) :: st) (WX X S) k n K) : Go E Y mc ms (pc) ls (.ref a :: st) (WX X S) k n K := g_getfield hd hw hci hf hc.lt (hc.at S) (sl_C hc.is hci hf) (by rw [fv_arr hc.is ht]; exact h)
theorem vg_putI {i a ci f : Nat} {z : Int} {S1 : St} (hd : decode (mBy Y) pc = .ok (.putfield i, 3)) (hw : Cond.fieldLink (mNm Y).cls i (TC ci f).1 (TC ci f).2.1 (TC ci f).2.2.1 ∈ gtbl) (hc : HC X ci a) (hci : ci < 18) (hf : f < NC ci) (ht : TYC ci f = .int) (hfin : (TC ci f).2.2.2 = false) (e : S1 = u S a f z) (h : Go E Y mc ms (pc + 3) ls (st) (WX X S1) k n K) : Go E Y mc ms (pc) ls (V z :: .ref a :: st) (WX X S) k n K := g_putfield hd hw hci hf hfin (by rw [ht]; exact okV_int _) hc.lt (hc.at S) (by rw [sl_Clen hc.is hci]; exact hf) (by subst e; have q := gmX_uIC (S := S) (x := Int32.ofInt z) hc hci ht; unfold WX u at h; rw [q] at h; exact h)
theorem vg_putL {i a ci f : Nat} {z : Int} {S1 : St} (hd : decode (mBy Y) pc = .ok (.putfield i, 3)) (hw : Cond.fieldLink (mNm Y).cls i (TC ci f).1 (TC ci f).2.1 (TC ci f).2.2.1 ∈ gtbl) (hc : HC X ci a) (hci : ci < 18) (hf : f < NC ci) (ht : TYC ci f = .long) (hfin : (TC ci f).2.2.2 = false) (e : S1 = ul S a f z) (h : Go E Y mc ms (pc + 3) ls (st) (WX X S1) k n K) : Go E Y mc ms (pc) ls (J z :: .ref a :: st) (WX X S) k n K := g_putfield hd hw hci hf hfin (by rw [ht]; exact okV_long _) hc.lt (hc.at S) (by rw [sl_Clen hc.is hci]; exact hf) (by subst e; have q := gmX_uLC (S := S) (x := Int64.ofInt z) hc hci ht; unfold WX ul at h; rw [q] at h; exact h)
theorem ix_in {i : Int} {N : Nat} (hi : 0 ≤ i ∧ i < (N : Int)) (hN : N < 100000) : (Int32.ofInt i).toInt = i := I_toInt ⟨by omega, by omega⟩
theorem vg_iaload {N a : Nat} {i : Int} {j : Nat} (hd : decode (mBy Y) pc = .ok (.iaload, 1)) (ha : HA X 0 N a) (hN : Nat.ble N 99999 = true) (hi : 0 ≤ i ∧ i < (N : Int)) (ej : i.toNat = j) (h : Go E Y mc ms (pc + 1) ls (V (g S a j) :: st) (WX X S) k n K) : Go E Y mc ms (pc) ls (V i :: .ref a :: st) (WX X S) k n K := by
  subst ej
  have e := ix_in hi (by have := Nat.le_of_ble_eq_true hN; omega)
  refine g_iaload hd ha.lt (ha.at S) (by rw [e]; exact hi.1) (by rw [e, sl_A ha.is (by omega), av_int ha.is (by decide)]) ?_
  rw [V_g]; exact h
theorem vg_baload {N a : Nat} {i : Int} {j : Nat} (hd : decode (mBy Y) pc = .ok (.baload, 1)) (ha : HA X 1 N a) (hN : Nat.ble N 99999 = true) (hi : 0 ≤ i ∧ i < (N : Int)) (ej : i.toNat = j) (h : Go E Y mc ms (pc + 1) ls (V (g S a j) :: st) (WX X S) k n K) : Go E Y mc ms (pc) ls (V i :: .ref a :: st) (WX X S) k n K := by
  subst ej
  have e := ix_in hi (by have := Nat.le_of_ble_eq_true hN; omega)
  refine g_baload hd ha.lt (ha.at S) (by rw [e]; exact hi.1) (by rw [e, sl_A ha.is (by omega), av_int ha.is (by decide)]) ?_
  rw [V_g]; exact h
theorem vg_zaload {N a : Nat} {i : Int} {j : Nat} (hd : decode (mBy Y) pc = .ok (.baload, 1)) (ha : HA X 2 N a) (hN : Nat.ble N 99999 = true) (hi : 0 ≤ i ∧ i < (N : Int)) (ej : i.toNat = j) (h : Go E Y mc ms (pc + 1) ls (V (g S a j) :: st) (WX X S) k n K) : Go E Y mc ms (pc) ls (V i :: .ref a :: st) (WX X S) k n K := by
  subst ej
  have e := ix_in hi (by have := Nat.le_of_ble_eq_true hN; omega)
  refine g_zaload hd ha.lt (ha.at S) (by rw [e]; exact hi.1) (by rw [e, sl_A ha.is (by omega), av_int ha.is (by decide)]) ?_
  rw [V_g]; exact h
theorem vg_aaload {N a : Nat} {i : Int} {j : Nat} (hd : decode (mBy Y) pc = .ok (.aaload, 1)) (ha : HA X 5 N a) (hN : Nat.ble N 99999 = true) (hi : 0 ≤ i ∧ i < (N : Int)) (ej : i.toNat = j) (h : Go E Y mc ms (pc + 1) ls (.ref (tgt a j) :: st) (WX X S) k n K) : Go E Y mc ms (pc) ls (V i :: .ref a :: st) (WX X S) k n K := by
  subst ej
  have e := ix_in hi (by have := Nat.le_of_ble_eq_true hN; omega)
  refine g_aaload hd ha.lt (ha.at S) (by rw [e]; exact hi.1) (by rw [e, sl_A ha.is (by omega), av_ref ha.is]) ?_
  exact h
theorem vg_iastore {N a : Nat} {i : Int} {j : Nat} {z : Int} {S1 : St} (hd : decode (mBy Y) pc = .ok (.iastore, 1)) (ha : HA X 0 N a) (hN : Nat.ble N 99999 = true) (hi : 0 ≤ i ∧ i < (N : Int)) (ej : i.toNat = j) (e : S1 = u S a j z) (h : Go E Y mc ms (pc + 1) ls (st) (WX X S1) k n K) : Go E Y mc ms (pc) ls (V z :: V i :: .ref a :: st) (WX X S) k n K := by
  subst ej
  have e0 := ix_in hi (by have := Nat.le_of_ble_eq_true hN; omega)
  subst e
  refine g_iastore hd ha.lt (ha.at S) (by rw [e0]; exact hi.1) (by rw [e0, sl_Alen ha.is]; omega) ?_
  rw [e0]
  have q := gmX_uIA (S := S) (i := i.toNat) (x := Int32.ofInt z) ha (by decide)
  unfold WX u at h
  rw [q] at h
  exact h
theorem vg_bastore {N a : Nat} {i : Int} {j : Nat} {z : Int} {S1 : St} (hd : decode (mBy Y) pc = .ok (.bastore, 1)) (ha : HA X 1 N a) (hN : Nat.ble N 99999 = true) (hi : 0 ≤ i ∧ i < (N : Int)) (ej : i.toNat = j) (e : S1 = u S a j (i_nb z)) (h : Go E Y mc ms (pc + 1) ls (st) (WX X S1) k n K) : Go E Y mc ms (pc) ls (V z :: V i :: .ref a :: st) (WX X S) k n K := by
  subst ej
  have e0 := ix_in hi (by have := Nat.le_of_ble_eq_true hN; omega)
  subst e
  refine g_bastore hd ha.lt (ha.at S) (by rw [e0]; exact hi.1) (by rw [e0, sl_Alen ha.is]; omega) ?_
  rw [e0]
  have q := gmX_uIA (S := S) (i := i.toNat) (x := vp_nar .byte (Int32.ofInt z)) ha (by decide)
  unfold WX u i_nb at h
  rw [Int32.ofInt_toInt, q] at h
  exact h
theorem vg_zastore {N a : Nat} {i : Int} {j : Nat} {z : Int} {S1 : St} (hd : decode (mBy Y) pc = .ok (.bastore, 1)) (ha : HA X 2 N a) (hN : Nat.ble N 99999 = true) (hi : 0 ≤ i ∧ i < (N : Int)) (ej : i.toNat = j) (e : S1 = u S a j (i_nz z)) (h : Go E Y mc ms (pc + 1) ls (st) (WX X S1) k n K) : Go E Y mc ms (pc) ls (V z :: V i :: .ref a :: st) (WX X S) k n K := by
  subst ej
  have e0 := ix_in hi (by have := Nat.le_of_ble_eq_true hN; omega)
  subst e
  refine g_zastore hd ha.lt (ha.at S) (by rw [e0]; exact hi.1) (by rw [e0, sl_Alen ha.is]; omega) ?_
  rw [e0]
  have q := gmX_uIA (S := S) (i := i.toNat) (x := vp_nar .boolean (Int32.ofInt z)) ha (by decide)
  unfold WX u i_nz at h
  rw [Int32.ofInt_toInt, q] at h
  exact h
theorem vg_alen {N a t : Nat} (hd : decode (mBy Y) pc = .ok (.arraylength, 1)) (ht : t < 6) (ha : HA X t N a) (h : Go E Y mc ms (pc + 1) ls (V (N : Int) :: st) (WX X S) k n K) : Go E Y mc ms (pc) ls (.ref a :: st) (WX X S) k n K := g_alen hd ht ha.lt (ha.at S) (by rw [sl_Alen ha.is]; exact (Int32.ofInt_eq_ofNat).symm) h
theorem vg_iadd {a b : Int} (hd : decode (mBy Y) pc = .ok (.iadd, 1)) (h : Go E Y mc ms (pc + 1) ls (V (a + b) :: st) (WX X S) k n K) : Go E Y mc ms (pc) ls (V b :: V a :: st) (WX X S) k n K := by
  refine g_iadd hd ?_
  rw [← Int32.ofInt_add]
  exact h
theorem vg_isub {a b : Int} (hd : decode (mBy Y) pc = .ok (.isub, 1)) (h : Go E Y mc ms (pc + 1) ls (V (a - b) :: st) (WX X S) k n K) : Go E Y mc ms (pc) ls (V b :: V a :: st) (WX X S) k n K := by
  refine g_isub hd ?_
  rw [← Int32.ofInt_sub]
  exact h
theorem vg_imul {a b : Int} (hd : decode (mBy Y) pc = .ok (.imul, 1)) (h : Go E Y mc ms (pc + 1) ls (V (a * b) :: st) (WX X S) k n K) : Go E Y mc ms (pc) ls (V b :: V a :: st) (WX X S) k n K := by
  refine g_imul hd ?_
  rw [← Int32.ofInt_mul]
  exact h
theorem vg_iand {a b : Int} (hd : decode (mBy Y) pc = .ok (.iand, 1)) (h : Go E Y mc ms (pc + 1) ls (V (i_and a b) :: st) (WX X S) k n K) : Go E Y mc ms (pc) ls (V b :: V a :: st) (WX X S) k n K := by
  refine g_iand hd ?_
  unfold i_and at h; rw [Vt] at h
  exact h
theorem vg_ior {a b : Int} (hd : decode (mBy Y) pc = .ok (.ior, 1)) (h : Go E Y mc ms (pc + 1) ls (V (i_or a b) :: st) (WX X S) k n K) : Go E Y mc ms (pc) ls (V b :: V a :: st) (WX X S) k n K := by
  refine g_ior hd ?_
  unfold i_or at h; rw [Vt] at h
  exact h
theorem vg_ishl {a b : Int} (hd : decode (mBy Y) pc = .ok (.ishl, 1)) (h : Go E Y mc ms (pc + 1) ls (V (i_shl a b) :: st) (WX X S) k n K) : Go E Y mc ms (pc) ls (V b :: V a :: st) (WX X S) k n K := by
  refine g_ishl hd ?_
  unfold i_shl at h; rw [Vt] at h
  exact h
theorem vg_ishr {a b : Int} (hd : decode (mBy Y) pc = .ok (.ishr, 1)) (h : Go E Y mc ms (pc + 1) ls (V (i_shr a b) :: st) (WX X S) k n K) : Go E Y mc ms (pc) ls (V b :: V a :: st) (WX X S) k n K := by
  refine g_ishr hd ?_
  unfold i_shr at h; rw [Vt] at h
  exact h
theorem vg_ladd {a b : Int} (hd : decode (mBy Y) pc = .ok (.ladd, 1)) (h : Go E Y mc ms (pc + 1) ls (J (a + b) :: st) (WX X S) k n K) : Go E Y mc ms (pc) ls (J b :: J a :: st) (WX X S) k n K := by
  refine g_ladd hd ?_
  rw [← Int64.ofInt_add]
  exact h
theorem vg_lsub {a b : Int} (hd : decode (mBy Y) pc = .ok (.lsub, 1)) (h : Go E Y mc ms (pc + 1) ls (J (a - b) :: st) (WX X S) k n K) : Go E Y mc ms (pc) ls (J b :: J a :: st) (WX X S) k n K := by
  refine g_lsub hd ?_
  rw [← Int64.ofInt_sub]
  exact h
theorem vg_lmul {a b : Int} (hd : decode (mBy Y) pc = .ok (.lmul, 1)) (h : Go E Y mc ms (pc + 1) ls (J (a * b) :: st) (WX X S) k n K) : Go E Y mc ms (pc) ls (J b :: J a :: st) (WX X S) k n K := by
  refine g_lmul hd ?_
  rw [← Int64.ofInt_mul]
  exact h
theorem vg_iushr {a b : Int} (hd : decode (mBy Y) pc = .ok (.iushr, 1)) (h : Go E Y mc ms (pc + 1) ls (V (i_ushr a b) :: st) (WX X S) k n K) : Go E Y mc ms (pc) ls (V b :: V a :: st) (WX X S) k n K := by
  refine g_iushr hd rfl ?_
  unfold i_ushr at h
  rw [Vt] at h
  exact h
theorem vg_ineg {a : Int} (hd : decode (mBy Y) pc = .ok (.ineg, 1)) (h : Go E Y mc ms (pc + 1) ls (V (-a) :: st) (WX X S) k n K) : Go E Y mc ms (pc) ls (V a :: st) (WX X S) k n K := by
  refine g_ineg hd ?_
  rw [← Int32.ofInt_neg]
  exact h
theorem I_ne0 {b : Int} (hb : inR b) (h0 : 0 < b) : ¬ Int32.ofInt b = 0 := fun q => by
  have := (I_eq hb inR0).mp (q.trans I_0)
  omega
theorem I_div {a b : Int} (ha : inR a) (hb : inR b) (h0 : 0 < b) : Int32.ofInt a / Int32.ofInt b = Int32.ofInt (a.tdiv b) := by
  have e : Int32.maxValue.toInt = 2147483647 := by decide
  rw [Int32.ofInt_tdiv ha.1 (by have := ha.2; omega) hb.1 (by have := hb.2; omega)]
theorem I_rem {a b : Int} (ha : inR a) (hb : inR b) (h0 : 0 < b) : Int32.ofInt a - Int32.ofInt a / Int32.ofInt b * Int32.ofInt b = Int32.ofInt (a.tmod b) := by
  rw [I_div ha hb h0, ← Int32.ofInt_mul, ← Int32.ofInt_sub]
  congr 1
  have := Int.mul_tdiv_add_tmod a b
  rw [Int.mul_comm] at this
  omega
theorem vg_idiv {a b : Int} (hd : decode (mBy Y) pc = .ok (.idiv, 1)) (ha : inR a) (hb : inR b) (h0 : 0 < b) (h : Go E Y mc ms (pc + 1) ls (V (a.tdiv b) :: st) (WX X S) k n K) : Go E Y mc ms (pc) ls (V b :: V a :: st) (WX X S) k n K := by
  refine g_idiv hd (I_ne0 hb h0) ?_
  rw [I_div ha hb h0]
  exact h
theorem vg_irem {a b : Int} (hd : decode (mBy Y) pc = .ok (.irem, 1)) (ha : inR a) (hb : inR b) (h0 : 0 < b) (h : Go E Y mc ms (pc + 1) ls (V (a.tmod b) :: st) (WX X S) k n K) : Go E Y mc ms (pc) ls (V b :: V a :: st) (WX X S) k n K := by
  refine g_irem hd (I_ne0 hb h0) ?_
  rw [I_rem ha hb h0]
  exact h
theorem vg_i2l {a : Int} (hd : decode (mBy Y) pc = .ok (.i2l, 1)) (ha : inR a) (h : Go E Y mc ms (pc + 1) ls (J a :: st) (WX X S) k n K) : Go E Y mc ms (pc) ls (V a :: st) (WX X S) k n K := g_i2l hd (by rw [← Int64.toInt_inj, Int32.toInt_toInt64, I_toInt ha, L_toInt (inR_L ha)]) h
theorem vg_l2i {a : Int} (hd : decode (mBy Y) pc = .ok (.l2i, 1)) (h : Go E Y mc ms (pc + 1) ls (V a :: st) (WX X S) k n K) : Go E Y mc ms (pc) ls (J a :: st) (WX X S) k n K := g_l2i hd Int64.toInt32_ofInt h
theorem vg_i2b {a : Int} (hd : decode (mBy Y) pc = .ok (.i2b, 1)) (h : Go E Y mc ms (pc + 1) ls (V (i_b a) :: st) (WX X S) k n K) : Go E Y mc ms (pc) ls (V a :: st) (WX X S) k n K := by
  refine g_i2b hd rfl ?_
  unfold i_b at h
  rw [Vt] at h
  exact h
theorem vg_i2d {a : Int} (hd : decode (mBy Y) pc = .ok (.i2d, 1)) (h : Go E Y mc ms (pc + 1) ls (.double (i_d a) :: st) (WX X S) k n K) : Go E Y mc ms (pc) ls (V a :: st) (WX X S) k n K := g_i2d hd h
theorem vg_bipush {z : Int} (hd : decode (mBy Y) pc = .ok (.bipush z, 2)) (hz : (Int8.ofInt z).toInt32 = Int32.ofInt z) (h : Go E Y mc ms (pc + 2) ls (V z :: st) (WX X S) k n K) : Go E Y mc ms (pc) ls (st) (WX X S) k n K := g_bipush hd hz h
theorem vg_sipush {z : Int} (hd : decode (mBy Y) pc = .ok (.sipush z, 3)) (hz : (Int16.ofInt z).toInt32 = Int32.ofInt z) (h : Go E Y mc ms (pc + 3) ls (V z :: st) (WX X S) k n K) : Go E Y mc ms (pc) ls (st) (WX X S) k n K := g_sipush hd hz h
theorem vg_iconst {z : Int} (hd : decode (mBy Y) pc = .ok (.iconst z, 1)) (h : Go E Y mc ms (pc + 1) ls (V z :: st) (WX X S) k n K) : Go E Y mc ms (pc) ls (st) (WX X S) k n K := g_iconst hd rfl h
theorem vg_lconst {z : Fin 2} {y : Int} (hd : decode (mBy Y) pc = .ok (.lconst z, 1)) (hy : Int64.ofNat (z : Nat) = Int64.ofInt y) (h : Go E Y mc ms (pc + 1) ls (J y :: st) (WX X S) k n K) : Go E Y mc ms (pc) ls (st) (WX X S) k n K := g_lconst hd hy h
theorem vg_icmp_eq {a b : Int} {off : Int} {t : Nat} (hd : decode (mBy Y) pc = .ok (.if_icmp .eq off, 3)) (ht : (pc : Int) + off = (t : Int)) (ha : inR a) (hb : inR b) (h1 : a = b → Go E Y mc ms (t) ls (st) (WX X S) k n K) (h2 : ¬ (a = b) → Go E Y mc ms (pc + 3) ls (st) (WX X S) k n K) : Go E Y mc ms (pc) ls (V b :: V a :: st) (WX X S) k n K := g_icmp_eq hd ht (fun hc => h1 ((I_eq ha hb).mp hc)) (fun hc => h2 (fun q => hc ((I_eq ha hb).mpr q)))
theorem vg_if_eq {a : Int} {off : Int} {t : Nat} (hd : decode (mBy Y) pc = .ok (.ifCond .eq off, 3)) (ht : (pc : Int) + off = (t : Int)) (ha : inR a) (h1 : a = 0 → Go E Y mc ms (t) ls (st) (WX X S) k n K) (h2 : ¬ (a = 0) → Go E Y mc ms (pc + 3) ls (st) (WX X S) k n K) : Go E Y mc ms (pc) ls (V a :: st) (WX X S) k n K := have hb := inR0; g_if_eq hd ht (fun hc => h1 ((I_eq ha hb).mp hc)) (fun hc => h2 (fun q => hc ((I_eq ha hb).mpr q)))
theorem vg_icmp_ne {a b : Int} {off : Int} {t : Nat} (hd : decode (mBy Y) pc = .ok (.if_icmp .ne off, 3)) (ht : (pc : Int) + off = (t : Int)) (ha : inR a) (hb : inR b) (h1 : ¬ a = b → Go E Y mc ms (t) ls (st) (WX X S) k n K) (h2 : a = b → Go E Y mc ms (pc + 3) ls (st) (WX X S) k n K) : Go E Y mc ms (pc) ls (V b :: V a :: st) (WX X S) k n K := g_icmp_ne hd ht (fun hc => h1 ((not_congr (I_eq ha hb)).mp hc)) (fun hc => h2 ((I_eq ha hb).mp hc))
theorem vg_if_ne {a : Int} {off : Int} {t : Nat} (hd : decode (mBy Y) pc = .ok (.ifCond .ne off, 3)) (ht : (pc : Int) + off = (t : Int)) (ha : inR a) (h1 : ¬ a = 0 → Go E Y mc ms (t) ls (st) (WX X S) k n K) (h2 : a = 0 → Go E Y mc ms (pc + 3) ls (st) (WX X S) k n K) : Go E Y mc ms (pc) ls (V a :: st) (WX X S) k n K := have hb := inR0; g_if_ne hd ht (fun hc => h1 ((not_congr (I_eq ha hb)).mp hc)) (fun hc => h2 ((I_eq ha hb).mp hc))
theorem vg_icmp_lt {a b : Int} {off : Int} {t : Nat} (hd : decode (mBy Y) pc = .ok (.if_icmp .lt off, 3)) (ht : (pc : Int) + off = (t : Int)) (ha : inR a) (hb : inR b) (h1 : a < b → Go E Y mc ms (t) ls (st) (WX X S) k n K) (h2 : ¬ (a < b) → Go E Y mc ms (pc + 3) ls (st) (WX X S) k n K) : Go E Y mc ms (pc) ls (V b :: V a :: st) (WX X S) k n K := g_icmp_lt hd ht (fun hc => h1 ((I_lt ha hb).mp hc)) (fun hc => h2 (fun q => hc ((I_lt ha hb).mpr q)))
theorem vg_if_lt {a : Int} {off : Int} {t : Nat} (hd : decode (mBy Y) pc = .ok (.ifCond .lt off, 3)) (ht : (pc : Int) + off = (t : Int)) (ha : inR a) (h1 : a < 0 → Go E Y mc ms (t) ls (st) (WX X S) k n K) (h2 : ¬ (a < 0) → Go E Y mc ms (pc + 3) ls (st) (WX X S) k n K) : Go E Y mc ms (pc) ls (V a :: st) (WX X S) k n K := have hb := inR0; g_if_lt hd ht (fun hc => h1 ((I_lt ha hb).mp hc)) (fun hc => h2 (fun q => hc ((I_lt ha hb).mpr q)))
theorem vg_icmp_ge {a b : Int} {off : Int} {t : Nat} (hd : decode (mBy Y) pc = .ok (.if_icmp .ge off, 3)) (ht : (pc : Int) + off = (t : Int)) (ha : inR a) (hb : inR b) (h1 : b ≤ a → Go E Y mc ms (t) ls (st) (WX X S) k n K) (h2 : ¬ (b ≤ a) → Go E Y mc ms (pc + 3) ls (st) (WX X S) k n K) : Go E Y mc ms (pc) ls (V b :: V a :: st) (WX X S) k n K := g_icmp_ge hd ht (fun hc => h1 ((I_le hb ha).mp hc)) (fun hc => h2 (fun q => hc ((I_le hb ha).mpr q)))
theorem vg_if_ge {a : Int} {off : Int} {t : Nat} (hd : decode (mBy Y) pc = .ok (.ifCond .ge off, 3)) (ht : (pc : Int) + off = (t : Int)) (ha : inR a) (h1 : 0 ≤ a → Go E Y mc ms (t) ls (st) (WX X S) k n K) (h2 : ¬ (0 ≤ a) → Go E Y mc ms (pc + 3) ls (st) (WX X S) k n K) : Go E Y mc ms (pc) ls (V a :: st) (WX X S) k n K := have hb := inR0; g_if_ge hd ht (fun hc => h1 ((I_le hb ha).mp hc)) (fun hc => h2 (fun q => hc ((I_le hb ha).mpr q)))
theorem vg_icmp_gt {a b : Int} {off : Int} {t : Nat} (hd : decode (mBy Y) pc = .ok (.if_icmp .gt off, 3)) (ht : (pc : Int) + off = (t : Int)) (ha : inR a) (hb : inR b) (h1 : b < a → Go E Y mc ms (t) ls (st) (WX X S) k n K) (h2 : ¬ (b < a) → Go E Y mc ms (pc + 3) ls (st) (WX X S) k n K) : Go E Y mc ms (pc) ls (V b :: V a :: st) (WX X S) k n K := g_icmp_gt hd ht (fun hc => h1 ((I_lt hb ha).mp hc)) (fun hc => h2 (fun q => hc ((I_lt hb ha).mpr q)))
theorem vg_if_gt {a : Int} {off : Int} {t : Nat} (hd : decode (mBy Y) pc = .ok (.ifCond .gt off, 3)) (ht : (pc : Int) + off = (t : Int)) (ha : inR a) (h1 : 0 < a → Go E Y mc ms (t) ls (st) (WX X S) k n K) (h2 : ¬ (0 < a) → Go E Y mc ms (pc + 3) ls (st) (WX X S) k n K) : Go E Y mc ms (pc) ls (V a :: st) (WX X S) k n K := have hb := inR0; g_if_gt hd ht (fun hc => h1 ((I_lt hb ha).mp hc)) (fun hc => h2 (fun q => hc ((I_lt hb ha).mpr q)))
theorem vg_icmp_le {a b : Int} {off : Int} {t : Nat} (hd : decode (mBy Y) pc = .ok (.if_icmp .le off, 3)) (ht : (pc : Int) + off = (t : Int)) (ha : inR a) (hb : inR b) (h1 : a ≤ b → Go E Y mc ms (t) ls (st) (WX X S) k n K) (h2 : ¬ (a ≤ b) → Go E Y mc ms (pc + 3) ls (st) (WX X S) k n K) : Go E Y mc ms (pc) ls (V b :: V a :: st) (WX X S) k n K := g_icmp_le hd ht (fun hc => h1 ((I_le ha hb).mp hc)) (fun hc => h2 (fun q => hc ((I_le ha hb).mpr q)))
theorem vg_if_le {a : Int} {off : Int} {t : Nat} (hd : decode (mBy Y) pc = .ok (.ifCond .le off, 3)) (ht : (pc : Int) + off = (t : Int)) (ha : inR a) (h1 : a ≤ 0 → Go E Y mc ms (t) ls (st) (WX X S) k n K) (h2 : ¬ (a ≤ 0) → Go E Y mc ms (pc + 3) ls (st) (WX X S) k n K) : Go E Y mc ms (pc) ls (V a :: st) (WX X S) k n K := have hb := inR0; g_if_le hd ht (fun hc => h1 ((I_le ha hb).mp hc)) (fun hc => h2 (fun q => hc ((I_le ha hb).mpr q)))
theorem vg_ifB_eq {b : Bool} {off : Int} {t : Nat} (hd : decode (mBy Y) pc = .ok (.ifCond .eq off, 3)) (ht : (pc : Int) + off = (t : Int)) (h1 : b = true → Go E Y mc ms (pc + 3) ls (st) (WX X S) k n K) (h2 : ¬ b = true → Go E Y mc ms (t) ls (st) (WX X S) k n K) : Go E Y mc ms (pc) ls (V (bi b) :: st) (WX X S) k n K := vg_if_eq hd ht (bi_in b) (fun hc => h2 (by cases b; exact Bool.false_ne_true; cases hc)) (fun hc => h1 (by cases b; exact absurd rfl hc; rfl))
theorem vg_ifB_ne {b : Bool} {off : Int} {t : Nat} (hd : decode (mBy Y) pc = .ok (.ifCond .ne off, 3)) (ht : (pc : Int) + off = (t : Int)) (h1 : b = true → Go E Y mc ms (t) ls (st) (WX X S) k n K) (h2 : ¬ b = true → Go E Y mc ms (pc + 3) ls (st) (WX X S) k n K) : Go E Y mc ms (pc) ls (V (bi b) :: st) (WX X S) k n K := vg_if_ne hd ht (bi_in b) (fun hc => h1 (by cases b; exact absurd rfl hc; rfl)) (fun hc => h2 (by cases b; exact Bool.false_ne_true; cases hc))
theorem L_lt {a b : Int} (ha : inL a) (hb : inL b) : Int64.ofInt a < Int64.ofInt b ↔ a < b := by rw [Int64.lt_iff_toInt_lt, L_toInt ha, L_toInt hb]
theorem L_eq {a b : Int} (ha : inL a) (hb : inL b) : Int64.ofInt a = Int64.ofInt b ↔ a = b := by rw [← Int64.toInt_inj, L_toInt ha, L_toInt hb]
def cmpL (a b : Int) : Int := if a < b then -1 else if a = b then 0 else 1
theorem cmpL_V {a b : Int} (ha : inL a) (hb : inL b) : Value.int (lg_cmp (Int64.ofInt a) (Int64.ofInt b)) = V (cmpL a b) := by
  unfold lg_cmp cmpL
  simp only [L_lt ha hb, L_eq ha hb, gt_iff_lt, L_lt hb ha]
  (repeat' split) <;> first | rfl | (exfalso; omega)
theorem cmpL_in (a b : Int) : inR (cmpL a b) := by unfold cmpL inR; split <;> (try split) <;> constructor <;> decide
theorem vg_lcmp {a b : Int} (hd : decode (mBy Y) pc = .ok (.lcmp, 1)) (ha : inL a) (hb : inL b) (h : Go E Y mc ms (pc + 1) ls (V (cmpL a b) :: st) (WX X S) k n K) : Go E Y mc ms (pc) ls (J b :: J a :: st) (WX X S) k n K := g_lcmp hd (by rw [cmpL_V ha hb]; exact h)
theorem vg_lcmp_eq {a b : Int} {off : Int} {t : Nat} (hd0 : decode (mBy Y) pc = .ok (.lcmp, 1)) (hd : decode (mBy Y) (pc + 1) = .ok (.ifCond .eq off, 3)) (ht : ((pc + 1 : Nat) : Int) + off = (t : Int)) (ha : inL a) (hb : inL b) (h1 : a = b → Go E Y mc ms (t) ls (st) (WX X S) k n K) (h2 : ¬ (a = b) → Go E Y mc ms (pc + 1 + 3) ls (st) (WX X S) k n K) : Go E Y mc ms (pc) ls (J b :: J a :: st) (WX X S) k n K := vg_lcmp hd0 ha hb (vg_if_eq hd ht (cmpL_in a b) (fun hc => h1 (by unfold cmpL at hc; split at hc <;> (try split at hc) <;> omega)) (fun hc => h2 (by unfold cmpL at hc; split at hc <;> (try split at hc) <;> omega)))
theorem vg_lcmp_ne {a b : Int} {off : Int} {t : Nat} (hd0 : decode (mBy Y) pc = .ok (.lcmp, 1)) (hd : decode (mBy Y) (pc + 1) = .ok (.ifCond .ne off, 3)) (ht : ((pc + 1 : Nat) : Int) + off = (t : Int)) (ha : inL a) (hb : inL b) (h1 : ¬ a = b → Go E Y mc ms (t) ls (st) (WX X S) k n K) (h2 : a = b → Go E Y mc ms (pc + 1 + 3) ls (st) (WX X S) k n K) : Go E Y mc ms (pc) ls (J b :: J a :: st) (WX X S) k n K := vg_lcmp hd0 ha hb (vg_if_ne hd ht (cmpL_in a b) (fun hc => h1 (by unfold cmpL at hc; split at hc <;> (try split at hc) <;> omega)) (fun hc => h2 (by unfold cmpL at hc; split at hc <;> (try split at hc) <;> omega)))
theorem vg_lcmp_lt {a b : Int} {off : Int} {t : Nat} (hd0 : decode (mBy Y) pc = .ok (.lcmp, 1)) (hd : decode (mBy Y) (pc + 1) = .ok (.ifCond .lt off, 3)) (ht : ((pc + 1 : Nat) : Int) + off = (t : Int)) (ha : inL a) (hb : inL b) (h1 : a < b → Go E Y mc ms (t) ls (st) (WX X S) k n K) (h2 : ¬ (a < b) → Go E Y mc ms (pc + 1 + 3) ls (st) (WX X S) k n K) : Go E Y mc ms (pc) ls (J b :: J a :: st) (WX X S) k n K := vg_lcmp hd0 ha hb (vg_if_lt hd ht (cmpL_in a b) (fun hc => h1 (by unfold cmpL at hc; split at hc <;> (try split at hc) <;> omega)) (fun hc => h2 (by unfold cmpL at hc; split at hc <;> (try split at hc) <;> omega)))
theorem vg_lcmp_ge {a b : Int} {off : Int} {t : Nat} (hd0 : decode (mBy Y) pc = .ok (.lcmp, 1)) (hd : decode (mBy Y) (pc + 1) = .ok (.ifCond .ge off, 3)) (ht : ((pc + 1 : Nat) : Int) + off = (t : Int)) (ha : inL a) (hb : inL b) (h1 : b ≤ a → Go E Y mc ms (t) ls (st) (WX X S) k n K) (h2 : ¬ (b ≤ a) → Go E Y mc ms (pc + 1 + 3) ls (st) (WX X S) k n K) : Go E Y mc ms (pc) ls (J b :: J a :: st) (WX X S) k n K := vg_lcmp hd0 ha hb (vg_if_ge hd ht (cmpL_in a b) (fun hc => h1 (by unfold cmpL at hc; split at hc <;> (try split at hc) <;> omega)) (fun hc => h2 (by unfold cmpL at hc; split at hc <;> (try split at hc) <;> omega)))
theorem vg_lcmp_gt {a b : Int} {off : Int} {t : Nat} (hd0 : decode (mBy Y) pc = .ok (.lcmp, 1)) (hd : decode (mBy Y) (pc + 1) = .ok (.ifCond .gt off, 3)) (ht : ((pc + 1 : Nat) : Int) + off = (t : Int)) (ha : inL a) (hb : inL b) (h1 : b < a → Go E Y mc ms (t) ls (st) (WX X S) k n K) (h2 : ¬ (b < a) → Go E Y mc ms (pc + 1 + 3) ls (st) (WX X S) k n K) : Go E Y mc ms (pc) ls (J b :: J a :: st) (WX X S) k n K := vg_lcmp hd0 ha hb (vg_if_gt hd ht (cmpL_in a b) (fun hc => h1 (by unfold cmpL at hc; split at hc <;> (try split at hc) <;> omega)) (fun hc => h2 (by unfold cmpL at hc; split at hc <;> (try split at hc) <;> omega)))
theorem vg_lcmp_le {a b : Int} {off : Int} {t : Nat} (hd0 : decode (mBy Y) pc = .ok (.lcmp, 1)) (hd : decode (mBy Y) (pc + 1) = .ok (.ifCond .le off, 3)) (ht : ((pc + 1 : Nat) : Int) + off = (t : Int)) (ha : inL a) (hb : inL b) (h1 : a ≤ b → Go E Y mc ms (t) ls (st) (WX X S) k n K) (h2 : ¬ (a ≤ b) → Go E Y mc ms (pc + 1 + 3) ls (st) (WX X S) k n K) : Go E Y mc ms (pc) ls (J b :: J a :: st) (WX X S) k n K := vg_lcmp hd0 ha hb (vg_if_le hd ht (cmpL_in a b) (fun hc => h1 (by unfold cmpL at hc; split at hc <;> (try split at hc) <;> omega)) (fun hc => h2 (by unfold cmpL at hc; split at hc <;> (try split at hc) <;> omega)))
end VRules
