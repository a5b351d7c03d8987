/-! MOVING WORLDS: rows, new cells, classes of references, over the law's cells -/
def ca (o : Option PC) (k : Nat) (i : Int) : Option Value := if 0 ≤ i then cf o k i.toNat else none
theorem ca_at {o : Option PC} {k : Nat} {i : Int} {v : Value} (h : ca o k i = some v) : 0 ≤ i ∧ ∃ vs, o = some (k, vs) ∧ vs[i.toNat]? = some v := by
  unfold ca at h
  by_cases q : 0 ≤ i
  · rw [if_pos q] at h; exact ⟨q, cf_at h⟩
  · rw [if_neg q] at h; cases h
/-- an element of a row of numbers -/
def ald (L : List PC) (t a : Nat) (i : Int) : Option Int := vI (ca (lk L a) (100 + t) i)
/-- an element of a row of references, of the small boxes' row -/
def alq (L : List PC) (a : Nat) (i : Int) : Option Value := if a = XB + 300 + 303 then (if 0 ≤ i ∧ i < 256 then some (.ref (XB + 300 + i.toNat)) else none) else vO (ca (hp L a) 103 i)
def ast (L : List PC) (k a : Nat) (i : Int) (v : Value) : Option (List PC) := if 0 ≤ i then pf L a k i.toNat v else none
theorem ast_at {L L1 : List PC} {k a : Nat} {i : Int} {v : Value} (h : ast L k a i v = some L1) : 0 ≤ i ∧ ∃ vs, hp L a = some (k, vs) ∧ i.toNat < vs.length ∧ L1 = L.set (a - nCell) (k, vs.set i.toNat v) := by
  unfold ast at h
  by_cases q : 0 ≤ i
  · rw [if_pos q] at h; exact ⟨q, pf_at h⟩
  · rw [if_neg q] at h; cases h
def aln (L : List PC) (a : Nat) : Option Int := match lk L a with
  | some c => if 100 ≤ c.1 ∧ c.1 < 104 ∧ c.2.length < 2147483648 then some (c.2.length : Int) else none
  | none => none
theorem aln_at {L : List PC} {a : Nat} {z : Int} (h : aln L a = some z) : ∃ k vs, lk L a = some (k, vs) ∧ 100 ≤ k ∧ k < 104 ∧ z = (vs.length : Int) ∧ inR z := by
  unfold aln at h
  split at h
  · rename_i c e
    by_cases q : 100 ≤ c.1 ∧ c.1 < 104 ∧ c.2.length < 2147483648
    · rw [if_pos q] at h
      cases h
      exact ⟨c.1, c.2, e, q.1, q.2.1, rfl, by unfold inR; omega⟩
    · rw [if_neg q] at h; cases h
  · cases h
/-- the class of the object at a reference -/
def kcl (L : List PC) (a : Nat) : Option Nat := if a = 0 then some 10 else match lk L a with
  | some c => if c.1 < 18 then some c.1 else none
  | none => none
def isK (L : List PC) (a ci : Nat) : Bool := match kcl L a with
  | some c => Nat.beq c ci
  | none => false
theorem isK_at {Z : LZ} {a ci : Nat} (h : isK Z.2 a ci = true) : Kx (wz Z) a (RC ci) := by
  have h1 : kcl Z.2 a = some ci := by
    unfold isK at h
    split at h
    · rename_i c e
      rw [e, Nat.eq_of_beq_eq_true h]
    · cases h
  unfold kcl at h1
  by_cases q : a = 0
  · rw [if_pos q] at h1
    cases h1
    subst q
    refine .inl ⟨10, sl Z.1 0, by unfold XB; omega, ?_, by decide, rfl⟩
    unfold wz
    rw [List.getElem?_append_left (by rw [gm_len]; exact Nat.le_of_ble_eq_true rfl)]
    exact gm_at (Nat.le_of_ble_eq_true rfl)
  rw [if_neg q] at h1
  split at h1
  · rename_i c e
    by_cases q2 : c.1 < 18
    · rw [if_pos q2] at h1
      cases h1
      refine lk_ind (L := Z.2) (P := fun a c => c.1 < 18 → Kx (wz Z) a (RC c.1)) (fun a c hc q2 => ?_) (fun j hj _ => .inr (.inr ⟨j, hj, rfl, rfl⟩)) (fun j hj q2 => absurd q2 (show ¬ 101 < 18 by decide)) (fun j hj _ => .inr (.inl ⟨j, hj, rfl, rfl⟩)) (fun q2 => absurd q2 (show ¬ 101 < 18 by decide)) (fun q2 => absurd q2 (show ¬ 101 < 18 by decide)) a c e q2
      obtain ⟨q3, q4, -⟩ := hp_at hc
      exact .inl ⟨c.1, c.2, q3, q4, q2, rfl⟩
    · rw [if_neg q2] at h1; cases h1
  · cases h1
/-- an element that a row of objects may hold -/
def okE (L : List PC) (v : Value) : Bool := match v with
  | .null => true
  | .ref b => isK L b 11 || isK L b 12 || isK L b 17
  | _ => false
theorem okE_at {Z : LZ} {v : Value} (h : okE Z.2 v = true) : OkO (wz Z) v := by
  unfold okE at h
  split at h
  · exact .inl rfl
  · rename_i b
    rw [Bool.or_eq_true, Bool.or_eq_true] at h
    rcases h with (h | h) | h
    · exact .inr ⟨b, _, rfl, isK_at h, by decide +kernel⟩
    · exact .inr ⟨b, _, rfl, isK_at h, by decide +kernel⟩
    · exact .inr ⟨b, _, rfl, isK_at h, by decide +kernel⟩
  · cases h
def isA (L : List PC) (a t : Nat) : Bool := match hp L a with
  | some c => Nat.beq c.1 (100 + t)
  | none => false
theorem isA_at {Z : LZ} {a t : Nat} (h : isA Z.2 a t = true) : ∃ vs, hp Z.2 a = some (100 + t, vs) := by
  unfold isA at h
  split at h
  · rename_i c e
    exact ⟨c.2, by rw [e, ← Nat.eq_of_beq_eq_true h]⟩
  · cases h
theorem i_ix {i : Int} (hi : inR i) : (Int32.ofInt i).toInt = i := I_toInt hi
theorem gdI {B : List Int32} {k : Nat} (h : k < B.length) : B[k]? = some (B.getD k 0) := by rw [List.getD_eq_getElem?_getD, List.getElem?_eq_getElem h]; rfl
theorem nbV {z : Int} : V (i_nb z) = .int (vp_nar .byte (Int32.ofInt z)) := by show Value.int (Int32.ofInt (vp_nar .byte (Int32.ofInt z)).toInt) = _; rw [Int32.ofInt_toInt]
theorem nzV {z : Int} : V (i_nz z) = .int (vp_nar .boolean (Int32.ofInt z)) := by show Value.int (Int32.ofInt (vp_nar .boolean (Int32.ofInt z)).toInt) = _; rw [Int32.ofInt_toInt]
theorem lit_len : ∀ j, j < nLit → (bytS.getD j []).length = lenS.getD j 0 := by decide +kernel
/-- two references told apart by their numbers -/
def apq (L : List PC) (a b : Nat) : Bool := decide (a = b) || ((hp L a).isSome && ((hp L b).isSome || decide (b = XB + 300 + 300)) && (match hp L a with | some c => Nat.blt c.1 900 | none => false) && (match hp L b with | some c => Nat.blt c.1 900 | none => true))
theorem apq_at {Z : LZ} {a b : Nat} (h : apq Z.2 a b = true) : Ap (wz Z) a b := by
  unfold apq at h
  rw [Bool.or_eq_true] at h
  rcases h with h | h
  · exact .inr (.inl (of_decide_eq_true h))
  · rw [Bool.and_eq_true, Bool.and_eq_true, Bool.and_eq_true] at h
    obtain ⟨⟨⟨h1, h2⟩, h3⟩, h4⟩ := h
    cases ea : hp Z.2 a with
    | none => rw [ea] at h1; cases h1
    | some c =>
      rw [ea] at h3
      obtain ⟨q1, q2, -⟩ := hp_at ea
      have k1 : c.1 < 900 := Nat.le_of_ble_eq_true h3
      rw [Bool.or_eq_true] at h2
      rcases h2 with h2 | h2
      · cases eb : hp Z.2 b with
        | none => rw [eb] at h2; cases h2
        | some d =>
          rw [eb] at h4
          obtain ⟨q3, q4, -⟩ := hp_at eb
          exact .inl ⟨q1, q3, ⟨c, q2, k1⟩, ⟨d, q4, Nat.le_of_ble_eq_true h4⟩⟩
      · exact .inr (.inr ⟨q1, ⟨c, q2, k1⟩, of_decide_eq_true h2⟩)
/-- so many cells and slots more -/
def adC {α : Type} (c s : Nat) (o : Option (α × Nat × Nat)) : Option (α × Nat × Nat) := match o with
  | some q => some (q.1, q.2.1 + c, q.2.2 + s)
  | none => none
theorem adE {α : Type} {c s : Nat} {o : Option (α × Nat × Nat)} {x : α × Nat × Nat} {P : Prop} (h : adC c s o = some x) (p : ∀ y, o = some y → x.1 = y.1 → x.2.1 = y.2.1 + c → x.2.2 = y.2.2 + s → P) : P := by
  unfold adC at h
  split at h
  · cases h
    exact p _ rfl rfl rfl rfl
  · cases h
section WXA
variable {sc : SC} {Y : MI} {mc ms pc k n i : Nat} {ls : List (Nat × Value)} {st : List Value} {Z : LZ} {K : Option Value → List PC → Prop}
theorem wx_iald {a : Nat} {j z : Int} (h0 : ald Z.2 0 a j = some z) (hj : inR j) (hd : decode (mBy Y) pc = .ok (.iaload, 1)) (h : GX sc Y mc ms (pc + 1) ls (V z :: st) (wz Z) k n K) : GX sc Y mc ms pc ls (V j :: .ref a :: st) (wz Z) k n K := by
  obtain ⟨h1, -⟩ := vI_at h0
  obtain ⟨p0, vs, h2, h3⟩ := ca_at h1
  have e0 := i_ix hj
  refine lk_ind (L := Z.2) (P := fun a c => c = (100 + 0, vs) → GX sc Y mc ms pc ls (V j :: .ref a :: st) (wz Z) k n K) (fun a c hc e => ?_) (fun j hj e => ?_) (fun j hj e => ?_) (fun j hj e => ?_) (fun e => ?_) (fun e => ?_) a _ h2 rfl
  · subst e
    obtain ⟨q1, q2, -⟩ := hp_at hc
    exact x_iaload hd q1 q2 (by rw [e0]; exact p0) (by rw [e0]; exact h3) h
  all_goals cases e
theorem wx_zald {a : Nat} {j z : Int} (h0 : ald Z.2 2 a j = some z) (hj : inR j) (hd : decode (mBy Y) pc = .ok (.baload, 1)) (h : GX sc Y mc ms (pc + 1) ls (V z :: st) (wz Z) k n K) : GX sc Y mc ms pc ls (V j :: .ref a :: st) (wz Z) k n K := by
  obtain ⟨h1, -⟩ := vI_at h0
  obtain ⟨p0, vs, h2, h3⟩ := ca_at h1
  have e0 := i_ix hj
  refine lk_ind (L := Z.2) (P := fun a c => c = (100 + 2, vs) → GX sc Y mc ms pc ls (V j :: .ref a :: st) (wz Z) k n K) (fun a c hc e => ?_) (fun j hj e => ?_) (fun j hj e => ?_) (fun j hj e => ?_) (fun e => ?_) (fun e => ?_) a _ h2 rfl
  · subst e
    obtain ⟨q1, q2, -⟩ := hp_at hc
    exact x_zaload hd q1 q2 (by rw [e0]; exact p0) (by rw [e0]; exact h3) h
  all_goals cases e
theorem ten_at {f : Nat → Nat} {j : Nat} {v : Value} (h : (tenT f)[j]? = some v) : j < 100 ∧ v = .int (Int32.ofNat (48 + f j)) := by
  unfold tenT at h
  rw [List.getElem?_map] at h
  by_cases q : j < 100
  · rw [List.getElem?_range q] at h
    exact ⟨q, (Option.some.inj h).symm⟩
  · rw [List.getElem?_eq_none (by rw [List.length_range]; omega)] at h; cases h
theorem wx_bald {a : Nat} {j z : Int} (h0 : ald Z.2 1 a j = some z) (hj : inR j) (hd : decode (mBy Y) pc = .ok (.baload, 1)) (h : GX sc Y mc ms (pc + 1) ls (V z :: st) (wz Z) k n K) : GX sc Y mc ms pc ls (V j :: .ref a :: st) (wz Z) k n K := by
  obtain ⟨h1, -⟩ := vI_at h0
  obtain ⟨p0, vs, h2, h3⟩ := ca_at h1
  have e0 := i_ix hj
  refine lk_ind (L := Z.2) (P := fun a c => c = (100 + 1, vs) → GX sc Y mc ms pc ls (V j :: .ref a :: st) (wz Z) k n K) (fun a c hc e => ?_) (fun j hj e => ?_) (fun q hq e => ?_) (fun j hj e => ?_) (fun e => ?_) (fun e => ?_) a _ h2 rfl
  · subst e
    obtain ⟨q1, q2, -⟩ := hp_at hc
    exact x_baload hd q1 q2 (by rw [e0]; exact p0) (by rw [e0]; exact h3) h
  · cases e
  · have ev : vs = (bytS.getD q []).map Value.int := ((Prod.mk.inj e).2).symm
    subst ev
    rw [List.getElem?_map] at h3
    have hl : j.toNat < (bytS.getD q []).length := by
      by_cases q9 : j.toNat < (bytS.getD q []).length
      · exact q9
      · rw [List.getElem?_eq_none (by omega)] at h3; cases h3
    have hg : (bytS.getD q [])[j.toNat]? = some ((bytS.getD q []).getD j.toNat 0) := gdI hl
    rw [hg] at h3
    have e9 : V z = .int ((bytS.getD q []).getD j.toNat 0) := (Option.some.inj h3).symm
    rw [e9] at h
    refine x_litld hd hq (by rw [e0]; exact p0) (by rw [e0, ← lit_len q hq]; exact hl) ?_
    rw [e0]
    exact h
  · cases e
  · have ev : vs = tenT (fun j => j % 10) := ((Prod.mk.inj e).2).symm
    subst ev
    obtain ⟨q9, e9⟩ := ten_at h3
    rw [e9] at h
    refine x_onesld hd (by rw [e0]; exact p0) (by rw [e0]; omega) ?_
    rw [e0]
    exact h
  · have ev : vs = tenT (fun j => j / 10) := ((Prod.mk.inj e).2).symm
    subst ev
    obtain ⟨q9, e9⟩ := ten_at h3
    rw [e9] at h
    refine x_tensld hd (by rw [e0]; exact p0) (by rw [e0]; omega) ?_
    rw [e0]
    exact h
theorem wx_aald {a : Nat} {j : Int} {v : Value} (h0 : alq Z.2 a j = some v) (hj : inR j) (hd : decode (mBy Y) pc = .ok (.aaload, 1)) (h : (v = .null ∨ ∃ b, v = .ref b) → GX sc Y mc ms (pc + 1) ls (v :: st) (wz Z) k n K) : GX sc Y mc ms pc ls (V j :: .ref a :: st) (wz Z) k n K := by
  have e0 := i_ix hj
  unfold alq at h0
  by_cases q : a = XB + 300 + 303
  · rw [if_pos q] at h0
    by_cases q2 : 0 ≤ j ∧ j < 256
    · rw [if_pos q2] at h0
      cases h0
      subst q
      refine x_boxld hd (by rw [e0]; exact q2.1) (by rw [e0]; exact q2.2) ?_
      rw [e0]
      exact h (.inr ⟨_, rfl⟩)
    · rw [if_neg q2] at h0; cases h0
  · rw [if_neg q] at h0
    obtain ⟨h1, hv⟩ := vO_at h0
    obtain ⟨p0, vs, h2, h3⟩ := ca_at h1
    obtain ⟨q1, q2, -⟩ := hp_at h2
    exact x_aaload hd q1 q2 (by rw [e0]; exact p0) (by rw [e0]; exact h3) hv (h hv)
theorem wx_iast {a : Nat} {j z : Int} {L1 : List PC} (h0 : ast Z.2 100 a j (V z) = some L1) (hj : inR j) (hd : decode (mBy Y) pc = .ok (.iastore, 1)) (h : GX sc Y mc ms (pc + 1) ls st (wz (Z.1, L1)) k n K) : GX sc Y mc ms pc ls (V z :: V j :: .ref a :: st) (wz Z) k n K := by
  obtain ⟨p0, vs, h1, h2, rfl⟩ := ast_at h0
  obtain ⟨q1, q2, q3⟩ := hp_at h1
  have e0 := i_ix hj
  refine x_iastore hd q1 q2 (by rw [e0]; exact p0) (by rw [e0]; exact h2) ?_
  rw [e0, wz_set q3]
  exact h
theorem wx_bast {a : Nat} {j z : Int} {L1 : List PC} (h0 : ast Z.2 101 a j (V (i_nb z)) = some L1) (hj : inR j) (hd : decode (mBy Y) pc = .ok (.bastore, 1)) (h : GX sc Y mc ms (pc + 1) ls st (wz (Z.1, L1)) k n K) : GX sc Y mc ms pc ls (V z :: V j :: .ref a :: st) (wz Z) k n K := by
  obtain ⟨p0, vs, h1, h2, rfl⟩ := ast_at h0
  obtain ⟨q1, q2, q3⟩ := hp_at h1
  have e0 := i_ix hj
  refine x_bastore hd q1 q2 (by rw [e0]; exact p0) (by rw [e0]; exact h2) ?_
  rw [e0, wz_set q3]
  rw [nbV] at h
  exact h
theorem wx_zast {a : Nat} {j z : Int} {L1 : List PC} (h0 : ast Z.2 102 a j (V (i_nz z)) = some L1) (hj : inR j) (hd : decode (mBy Y) pc = .ok (.bastore, 1)) (h : GX sc Y mc ms (pc + 1) ls st (wz (Z.1, L1)) k n K) : GX sc Y mc ms pc ls (V z :: V j :: .ref a :: st) (wz Z) k n K := by
  obtain ⟨p0, vs, h1, h2, rfl⟩ := ast_at h0
  obtain ⟨q1, q2, q3⟩ := hp_at h1
  have e0 := i_ix hj
  refine x_zastore hd q1 q2 (by rw [e0]; exact p0) (by rw [e0]; exact h2) ?_
  rw [e0, wz_set q3]
  rw [nzV] at h
  exact h
theorem wx_aast {a : Nat} {j : Int} {v : Value} {L1 : List PC} (h0 : ast Z.2 103 a j v = some L1) (hv : okE Z.2 v = true) (hj : inR j) (hd : decode (mBy Y) pc = .ok (.aastore, 1)) (h : GX sc Y mc ms (pc + 1) ls st (wz (Z.1, L1)) k n K) : GX sc Y mc ms pc ls (v :: V j :: .ref a :: st) (wz Z) k n K := by
  obtain ⟨p0, vs, h1, h2, rfl⟩ := ast_at h0
  obtain ⟨q1, q2, q3⟩ := hp_at h1
  have e0 := i_ix hj
  rcases okE_at hv with rfl | ⟨b, C, rfl, hk, hca⟩
  · refine x_aastoreN hd q1 q2 (by rw [e0]; exact p0) (by rw [e0]; exact h2) ?_
    rw [e0, wz_set q3]
    exact h
  · refine x_aastore hd q1 q2 (by rw [e0]; exact p0) (by rw [e0]; exact h2) hk hca ?_
    rw [e0, wz_set q3]
    exact h
theorem wx_alen {a : Nat} {z : Int} (h0 : aln Z.2 a = some z) (hd : decode (mBy Y) pc = .ok (.arraylength, 1)) (h : inR z → GX sc Y mc ms (pc + 1) ls (V z :: st) (wz Z) k n K) : GX sc Y mc ms pc ls (.ref a :: st) (wz Z) k n K := by
  obtain ⟨kk, vs, h1, h2, h3, rfl, h4⟩ := aln_at h0
  replace h := h h4
  refine lk_ind (L := Z.2) (P := fun a c => c = (kk, vs) → GX sc Y mc ms pc ls (.ref a :: st) (wz Z) k n K) (fun a c hc e => ?_) (fun j hj e => ?_) (fun j hj e => ?_) (fun j hj e => ?_) (fun e => ?_) (fun e => ?_) a _ h1 rfl
  · subst e
    obtain ⟨q1, q2, -⟩ := hp_at hc
    obtain ⟨t, rfl⟩ : ∃ t, kk = 100 + t := ⟨kk - 100, by omega⟩
    exact x_alen hd (by omega) q1 q2 Int32.ofInt_eq_ofNat.symm h
  · have := (Prod.mk.inj e).1; omega
  · have ev := (Prod.mk.inj e).2
    rw [← ev, List.length_map, lit_len j hj] at h
    exact x_litlen hd hj Int32.ofInt_eq_ofNat.symm h
  · have := (Prod.mk.inj e).1; omega
  · have ev := (Prod.mk.inj e).2
    rw [← ev] at h
    intro E hE p e R s m args below meth c H locs lh F hR hS hl hw hsl hst
    rw [List.map_cons, gV_J E (by omega)]
    exact va_tlen F.1.1 F.1.2.1 F.J.2.2.1.2 hS rfl hd (h E hE p e R s m args below meth c H locs lh F hR hS hl hw hsl (sc_c trivial (sc_t hst)))
  · have ev := (Prod.mk.inj e).2
    rw [← ev] at h
    intro E hE p e R s m args below meth c H locs lh F hR hS hl hw hsl hst
    rw [List.map_cons, gV_J E (by omega)]
    exact va_tlen F.1.1 F.1.2.1 F.J.2.2.2.1.2 hS rfl hd (h E hE p e R s m args below meth c H locs lh F hR hS hl hw hsl (sc_c trivial (sc_t hst)))
end WXA
