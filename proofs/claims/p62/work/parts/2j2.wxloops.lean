/-! MOVING WORLDS: loops, joins, what the walks of the law's methods want besides -/
theorem cato {v : Value} (h : v = .null ∨ ∃ b, v = .ref b) : v.category = 1 := by rcases h with rfl | ⟨_, rfl⟩ <;> rfl
theorem bi_o (b : Bool) : bi b = 0 ∨ bi b = 1 := by cases b <;> simp [bi]
/-- a cell made: its reference, the cells behind it -/
def nw {β : Type} (L : List PC) (c : PC) (k : Nat → List PC → β) : β := k (nCell + L.length) (L ++ [c])
theorem nwE {β : Type} {L : List PC} {c : PC} {k : Nat → List PC → Option β} {x : β} {P : Prop} (h : nw L c k = some x) (p : ∀ r L1, r = nCell + L.length → L1 = L ++ [c] → k r L1 = some x → P) : P := p _ _ rfl rfl h
/-- null or not -/
def nlB {β : Type} (v : Value) (a b : Option β) : Option β := match v with
  | .null => a
  | _ => b
theorem nlE {β : Type} {v : Value} {a b : Option β} {x : β} {P : Prop} (h : nlB v a b = some x) (p1 : v = .null → a = some x → P) (p2 : v ≠ .null → b = some x → P) : P := by
  cases v with
  | null => exact p1 rfl h
  | _ => exact p2 (fun e => by cases e) h
/-- a loop that may end in the method's end, with its cost -/
def bnT {α β γ : Type} (o : Option ((α ⊕ β) × Nat × Nat)) (f : α → Option (γ × Nat × Nat)) (g : β → Option (γ × Nat × Nat)) : Option (γ × Nat × Nat) := bnO o fun p => match p.1 with
  | .inl r => adC p.2.1 p.2.2 (f r)
  | .inr e => adC p.2.1 p.2.2 (g e)
theorem bnTE {α β γ : Type} {o : Option ((α ⊕ β) × Nat × Nat)} {f : α → Option (γ × Nat × Nat)} {g : β → Option (γ × Nat × Nat)} {x : γ × Nat × Nat} {P : Prop} (h : bnT o f g = some x)
    (p1 : ∀ p r y, o = some p → p.1 = .inl r → f r = some y → x = (y.1, y.2.1 + p.2.1, y.2.2 + p.2.2) → P) (p2 : ∀ p e y, o = some p → p.1 = .inr e → g e = some y → x = (y.1, y.2.1 + p.2.1, y.2.2 + p.2.2) → P) : P := by
  unfold bnT at h
  refine bnE h (fun p e_p h => ?_)
  cases e : p.1 with
  | inl r =>
    rw [e] at h
    obtain ⟨y, h1, h2⟩ := adE2 h
    exact p1 p r y e_p e h1 h2
  | inr r =>
    rw [e] at h
    obtain ⟨y, h1, h2⟩ := adE2 h
    exact p2 p r y e_p e h1 h2
def alm (L : List PC) (a : Nat) : Option Int := if a = XB + 300 + 300 then some 0 else aln L a
theorem isK0 {L : List PC} : isK L 0 10 = true := rfl
theorem narByte {r : Int} (h : -128 ≤ r ∧ r ≤ 127) : narrow .byte (V r) = V r := by
  have q : ∀ n : Nat, n < 256 → (Int32.ofInt ((n : Int) - 128)).toInt8.toInt32 = Int32.ofInt ((n : Int) - 128) := by decide +kernel
  have e : r = (((r + 128).toNat : Nat) : Int) - 128 := by omega
  rw [e]
  exact congrArg Value.int (q _ (by omega))
theorem narChar {r : Int} (h : 0 ≤ r ∧ r ≤ 255) : narrow .char (V r) = V r := by
  have q : ∀ n : Nat, n < 256 → (Int32.ofInt (n : Int)).toUInt32.toUInt16.toUInt32.toInt32 = Int32.ofInt (n : Int) := by decide +kernel
  have e : r = ((r.toNat : Nat) : Int) := by omega
  rw [e]
  exact congrArg Value.int (q _ (by omega))
theorem okByte {z : Int} (h : -128 ≤ z ∧ z ≤ 127) : okV .byte (V z) := by
  refine ⟨narByte h, ?_⟩
  have q : ∀ n : Nat, n < 256 → fits .byte (.int (Int32.ofInt ((n : Int) - 128))) = true := by decide +kernel
  have e : z = (((z + 128).toNat : Nat) : Int) - 128 := by omega
  rw [e]
  exact q _ (by omega)
section WXL
variable {sc : SC} {Y : MI} {mc ms pc k n i : Nat} {ls : List (Nat × Value)} {st : List Value} {Z : LZ} {K : Option Value → List PC → Prop}
theorem wk_ret (hd : decode (mBy Y) pc = .ok (.return_, 1)) (hr : mRt Y = none) (hk : k ≤ mc) (hn : n ≤ ms) (h : K none (wz Z)) : GX sc Y mc ms pc ls [] (wz Z) k n K := x_return hd hr hk hn h
theorem wk_iretI {r : Int} (hd : decode (mBy Y) pc = .ok (.ireturn, 1)) (hr : mRt Y = some .int) (hk : k ≤ mc) (hn : n ≤ ms) (h : K (some (V r)) (wz Z)) : GX sc Y mc ms pc ls [V r] (wz Z) k n K := x_ireturn hd hr rfl hk hn h
theorem wk_iretC {r : Int} (h0 : 0 ≤ r ∧ r ≤ 255) (hd : decode (mBy Y) pc = .ok (.ireturn, 1)) (hr : mRt Y = some .char) (hk : k ≤ mc) (hn : n ≤ ms) (h : K (some (V r)) (wz Z)) : GX sc Y mc ms pc ls [V r] (wz Z) k n K := x_ireturn hd hr (narChar h0) hk hn h
theorem wk_iretY {r : Int} (h0 : -128 ≤ r ∧ r ≤ 127) (hd : decode (mBy Y) pc = .ok (.ireturn, 1)) (hr : mRt Y = some .byte) (hk : k ≤ mc) (hn : n ≤ ms) (h : K (some (V r)) (wz Z)) : GX sc Y mc ms pc ls [V r] (wz Z) k n K := x_ireturn hd hr (narByte h0) hk hn h
theorem wk_iretB {b : Bool} (hd : decode (mBy Y) pc = .ok (.ireturn, 1)) (hr : mRt Y = some .boolean) (hk : k ≤ mc) (hn : n ≤ ms) (h : K (some (V (bi b))) (wz Z)) : GX sc Y mc ms pc ls [V (bi b)] (wz Z) k n K := x_ireturn hd hr (narB b) hk hn h
theorem wk_aret {r : Value} {rt : FieldType} (h0 : r = .null ∨ ∃ b, r = .ref b) (hd : decode (mBy Y) pc = .ok (.areturn, 1)) (hr : mRt Y = some rt) (hrt : (∃ n, rt = .object n) ∨ ∃ t, rt = .array t) (hk : k ≤ mc) (hn : n ≤ ms) (h : K (some r) (wz Z)) : GX sc Y mc ms pc ls [r] (wz Z) k n K := x_areturn hd hr hrt h0 hk hn h
theorem wn_new {ci N r : Nat} {L1 : List PC} (hr : r = nCell + Z.2.length) (hL1 : L1 = Z.2 ++ [(ci, dfl ci)]) (hL : Z.2.length < 900000000) (hN : NC ci = N) (hd : decode (mBy Y) pc = .ok (.new i, 3)) (hci : ci < 18) (h1 : Cond.classLink (mNm Y).cls i (RC ci) ∈ gtbl) (h2 : Cond.instantiable (RC ci) (NC ci) ∈ gtbl) (h3 : Cond.initialized (RC ci) ∈ gtbl) (hk : k + 1 ≤ mc) (hn : n + N ≤ ms)
    (h : GX sc Y mc ms (pc + 3) ls (.ref r :: st) (wz (Z.1, L1)) (k + 1) (n + N) K) : GX sc Y mc ms pc ls st (wz Z) k n K := by
  subst hr hL1
  exact wx_new hL hN hd hci h1 h2 h3 hk hn h
theorem wn_newa_int {z : Int} {r : Nat} {L1 : List PC} (hr : r = nCell + Z.2.length) (hL1 : L1 = Z.2 ++ [(100, List.replicate z.toNat (.int 0))]) (hL : Z.2.length < 900000000) (hz : inR z) (h0 : 0 ≤ z ∧ z ≤ 16384) (hd : decode (mBy Y) pc = .ok (.newarray .int, 2)) (h1 : Cond.arrayClass (newarray.typeOf .int) ∈ gtbl) (hk : k + 1 ≤ mc) (hn : n + z.toNat ≤ ms)
    (h : GX sc Y mc ms (pc + 2) ls (.ref r :: st) (wz (Z.1, L1)) (k + 1) (n + z.toNat) K) : GX sc Y mc ms pc ls (V z :: st) (wz Z) k n K := by
  subst hr hL1
  exact wx_newa_int hL hz h0 hd h1 hk hn h
theorem wn_newa_byte {z : Int} {r : Nat} {L1 : List PC} (hr : r = nCell + Z.2.length) (hL1 : L1 = Z.2 ++ [(101, List.replicate z.toNat (.int 0))]) (hL : Z.2.length < 900000000) (hz : inR z) (h0 : 0 ≤ z ∧ z ≤ 16384) (hd : decode (mBy Y) pc = .ok (.newarray .byte, 2)) (h1 : Cond.arrayClass (newarray.typeOf .byte) ∈ gtbl) (hk : k + 1 ≤ mc) (hn : n + z.toNat ≤ ms)
    (h : GX sc Y mc ms (pc + 2) ls (.ref r :: st) (wz (Z.1, L1)) (k + 1) (n + z.toNat) K) : GX sc Y mc ms pc ls (V z :: st) (wz Z) k n K := by
  subst hr hL1
  exact wx_newa_byte hL hz h0 hd h1 hk hn h
theorem wn_newa_bool {z : Int} {r : Nat} {L1 : List PC} (hr : r = nCell + Z.2.length) (hL1 : L1 = Z.2 ++ [(102, List.replicate z.toNat (.int 0))]) (hL : Z.2.length < 900000000) (hz : inR z) (h0 : 0 ≤ z ∧ z ≤ 16384) (hd : decode (mBy Y) pc = .ok (.newarray .boolean, 2)) (h1 : Cond.arrayClass (newarray.typeOf .boolean) ∈ gtbl) (hk : k + 1 ≤ mc) (hn : n + z.toNat ≤ ms)
    (h : GX sc Y mc ms (pc + 2) ls (.ref r :: st) (wz (Z.1, L1)) (k + 1) (n + z.toNat) K) : GX sc Y mc ms pc ls (V z :: st) (wz Z) k n K := by
  subst hr hL1
  exact wx_newa_bool hL hz h0 hd h1 hk hn h
theorem wn_newq {z : Int} {r : Nat} {L1 : List PC} (hr : r = nCell + Z.2.length) (hL1 : L1 = Z.2 ++ [(103, List.replicate z.toNat .null)]) (hL : Z.2.length < 900000000) (hz : inR z) (h0 : 0 ≤ z ∧ z ≤ 16384) (hd : decode (mBy Y) pc = .ok (.anewarray i, 3)) (h1 : Cond.classLink (mNm Y).cls i "java/lang/Object" ∈ gtbl) (hk : k + 1 ≤ mc) (hn : n + z.toNat ≤ ms)
    (h : GX sc Y mc ms (pc + 3) ls (.ref r :: st) (wz (Z.1, L1)) (k + 1) (n + z.toNat) K) : GX sc Y mc ms pc ls (V z :: st) (wz Z) k n K := by
  subst hr hL1
  exact wx_newq hL hz h0 hd h1 hk hn h
theorem wn_clone {a t r : Nat} {vs : List Value} {ad : String} {L1 : List PC} (hr : r = nCell + Z.2.length) (hL1 : L1 = Z.2 ++ [(100 + t, vs)]) (hL : Z.2.length < 900000000) (hc : cln Z.2 t a = some vs) (hd : decode (mBy Y) pc = .ok (.invokevirtual i, 3)) (ht : t < 3) (hnm : "[" ++ (aT t).toString = ad) (hw0 : Cond.methodLink (mNm Y).cls i ⟨ad, "clone", "()Ljava/lang/Object;"⟩ ∈ gtbl) (hw1 : Cond.sameMethod ad "java/lang/Object" "clone" "()Ljava/lang/Object;" ∈ gtbl) (hw2 : Cond.native ⟨"java/lang/Object", "clone", "()Ljava/lang/Object;"⟩ ∈ gtbl) (hw3 : Cond.instanceMethod ⟨"java/lang/Object", "clone", "()Ljava/lang/Object;"⟩ ∈ gtbl)
    (hw4 : Cond.selects ad ⟨ad, "clone", "()Ljava/lang/Object;"⟩ ⟨"java/lang/Object", "clone", "()Ljava/lang/Object;"⟩ ∈ gtbl) (hcl : (ad, "java/lang/Cloneable") ∈ castT) (hF : 1 ≤ mFr Y) (hr8 : (st.map fun v => v.category).sum + 14 ≤ mWd Y)
    (hk : k + 1 ≤ mc) (hn : n + vs.length ≤ ms) (h : GX sc Y mc ms (pc + 3) ls (.ref r :: st) (wz (Z.1, L1)) (k + 1) (n + vs.length) K) : GX sc Y mc ms pc ls (.ref a :: st) (wz Z) k n K := by
  subst hr hL1
  exact wx_clone hL hc hd ht hnm hw0 hw1 hw2 hw3 hw4 hcl hF hr8 hk hn h
theorem wx_getC {a : Nat} (h0 : isA Z.2 a 3 = true) (hd : decode (mBy Y) pc = .ok (.invokevirtual i, 3)) (hw0 : Cond.methodLink (mNm Y).cls i ⟨"java/lang/Object", "getClass", "()Ljava/lang/Class;"⟩ ∈ gtbl) (hw1 : Cond.selects "[Ljava/lang/Object;" ⟨"java/lang/Object", "getClass", "()Ljava/lang/Class;"⟩ ⟨"java/lang/Object", "getClass", "()Ljava/lang/Class;"⟩ ∈ gtbl) (hw2 : Cond.instanceMethod ⟨"java/lang/Object", "getClass", "()Ljava/lang/Class;"⟩ ∈ gtbl) (hw3 : Cond.native ⟨"java/lang/Object", "getClass", "()Ljava/lang/Class;"⟩ ∈ gtbl)
    (hF : 1 ≤ mFr Y) (hr8 : (st.map fun v => v.category).sum + 14 ≤ mWd Y) (h : GX sc Y mc ms (pc + 3) ls (.ref (XB + 300 + 304) :: st) (wz Z) k n K) : GX sc Y mc ms pc ls (.ref a :: st) (wz Z) k n K := by
  obtain ⟨vs, h1⟩ := isA_at h0
  obtain ⟨q1, q2, -⟩ := hp_at h1
  exact x_getC hd hw0 hw1 hw2 hw3 hF hr8 q1 q2 h
theorem wx_castA {a t : Nat} {nm : String} (h0 : isA Z.2 a t = true) (hd : decode (mBy Y) pc = .ok (.checkcast i, 3)) (hw0 : Cond.classLink (mNm Y).cls i nm ∈ gtbl) (ht : t < 3) (hnm : "[" ++ (aT t).toString = nm) (h : GX sc Y mc ms (pc + 3) ls (.ref a :: st) (wz Z) k n K) : GX sc Y mc ms pc ls (.ref a :: st) (wz Z) k n K := by
  obtain ⟨vs, h1⟩ := isA_at h0
  obtain ⟨q1, q2, -⟩ := hp_at h1
  exact x_castA hd hw0 ht hnm q1 q2 h
theorem x_i2c {x v : Int32} {ww : List PC} (hd : decode (mBy Y) pc = .ok (.i2c, 1)) (hv : (x.toUInt32 % 65536).toInt32 = v) (h : GX sc Y mc ms (pc + 1) ls (.int v :: st) ww k n K) : GX sc Y mc ms (pc) ls (.int x :: st) ww k n K := fun E hE p e R s m args below meth c H locs lh F hR hS hl hw hsl hst => lv_i2c F.1.1 F.1.2.1 hd hv (h E hE p e R s m args below meth c H locs lh F hR hS hl hw hsl (sc_c trivial (sc_t hst)))
theorem i2c_255 {r : Int} (h : 0 ≤ r ∧ r ≤ 255) : ((Int32.ofInt r).toUInt32 % 65536).toInt32 = Int32.ofInt r := by
  have q : ∀ n : Nat, n < 256 → ((Int32.ofInt (n : Int)).toUInt32 % 65536).toInt32 = Int32.ofInt (n : Int) := by decide +kernel
  have e : r = ((r.toNat : Nat) : Int) := by omega
  rw [e]
  exact q _ (by omega)
theorem wx_i2c {r : Int} (h0 : 0 ≤ r ∧ r ≤ 255) (hd : decode (mBy Y) pc = .ok (.i2c, 1)) (h : GX sc Y mc ms (pc + 1) ls (V r :: st) (wz Z) k n K) : GX sc Y mc ms (pc) ls (V r :: st) (wz Z) k n K := x_i2c hd (i2c_255 h0) h
/-- the length of a row, of ArrayList's empty row too -/
theorem wx_alm {a : Nat} {z : Int} (h0 : alm Z.2 a = some z) (hd : decode (mBy Y) pc = .ok (.arraylength, 1)) (h : inR z → GX sc Y mc ms (pc + 1) ls (V z :: st) (wz Z) k n K) : GX sc Y mc ms pc ls (.ref a :: st) (wz Z) k n K := by
  unfold alm at h0
  by_cases q : a = XB + 300 + 300
  · rw [if_pos q] at h0
    subst q
    cases h0
    have h1 := h (by unfold inR; omega)
    intro E hE p e R s m args below meth c H locs lh F hR hS hl hw hsl hst
    rw [List.map_cons, gV_J E (by omega)]
    exact va_tlen F.1.1 F.1.2.1 F.J.2.1.2 hS rfl hd (h1 E hE p e R s m args below meth c H locs lh F hR hS hl hw hsl (sc_c trivial (sc_t hst)))
  · rw [if_neg q] at h0
    exact wx_alen h0 hd h
theorem wx_slen (hd : decode (mBy Y) pc = .ok (.arraylength, 1)) (h : GX sc Y mc ms (pc + 1) ls (V (nI sc.2).toInt :: st) (wz Z) k n K) : GX sc Y mc ms pc ls (.ref (XB + 200) :: st) (wz Z) k n K := by
  refine x_slen hd ?_
  rw [show V (nI sc.2).toInt = .int (nI sc.2) by show Value.int (Int32.ofInt _) = _; rw [Int32.ofInt_toInt]] at h
  exact h
theorem wx_ref0 {b : Nat} {off : Int} {tgt : Nat} (hd : decode (mBy Y) pc = .ok (.ifnull off, 3)) (ht : (pc : Int) + off = (tgt : Int)) (h : GX sc Y mc ms (pc + 3) ls st (wz Z) k n K) : GX sc Y mc ms pc ls (.ref b :: st) (wz Z) k n K := x_ifnull (.inr ⟨b, rfl⟩) hd ht (fun e => by cases e) (fun _ => h)
theorem wx_ref1 {b : Nat} {off : Int} {tgt : Nat} (hd : decode (mBy Y) pc = .ok (.ifnonnull off, 3)) (ht : (pc : Int) + off = (tgt : Int)) (h : GX sc Y mc ms tgt ls st (wz Z) k n K) : GX sc Y mc ms pc ls (.ref b :: st) (wz Z) k n K := x_ifnonnull (.inr ⟨b, rfl⟩) hd ht (fun _ => h) (fun e => by cases e)
end WXL
/-! recursion: a method whose calls of itself nest d deep -/
def FJ0 : Nat := 6
def WJ0 : Nat := 133
def SJ0 : Nat := 25
def MJ (d : Nat) : MI := (mNm M_LP_joins, mBy M_LP_joins, mLo M_LP_joins, mRt M_LP_joins, mHh M_LP_joins, FJ0 + d, WJ0 + d * SJ0)
theorem fitJ {d : Nat} : Fits (MJ (d + 1)) (MJ d) := ⟨by show FJ0 + d + 1 ≤ FJ0 + (d + 1); omega, by show 8 + (mLo M_LP_joins + 11) + (WJ0 + d * SJ0) ≤ WJ0 + (d + 1) * SJ0; rw [Nat.add_mul]; have e : 8 + (mLo M_LP_joins + 11) = 1 * SJ0 := rfl; omega⟩
theorem fitJ0 {d : Nat} {Y' : MI} (h : (Nat.ble (mFr Y' + 1) FJ0 && Nat.ble (8 + (mLo Y' + 11) + mWd Y') WJ0) = true) : Fits (MJ d) Y' := by
  rw [Bool.and_eq_true] at h
  have h1 := Nat.le_of_ble_eq_true h.1
  have h2 := Nat.le_of_ble_eq_true h.2
  exact ⟨by show mFr Y' + 1 ≤ FJ0 + d; omega, by show 8 + (mLo Y' + 11) + mWd Y' ≤ WJ0 + d * SJ0; omega⟩
