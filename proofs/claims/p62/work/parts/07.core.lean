theorem g_aaload {E : EV} {Y : MI} {mc ms pc k n : Nat} {ls : List (Nat × Value)} {st : List Value} {S : PS} {K : RK → PS → Prop} {a b : Nat} {vs : List Value} {x : Int32} (hd : decode (mBy Y) pc = .ok (.aaload, 1)) (ha : a < XB) (hc : S.1[a]? = some (105, vs)) (h0 : 0 ≤ x.toInt) (hv : vs[x.toInt.toNat]? = some (.ref b))
    (h : Go E Y mc ms (pc + 1) ls (.ref b :: st) S k n K) : Go E Y mc ms pc ls (.int x :: .ref a :: st) S k n K := by
  intro p e R s m args below meth c H locs lh F hR hS hl
  have e1 : gV E (.ref a) = .ref (eP E a) := congrArg Value.ref (gA_in ha)
  show W p (eL E) e R s m args below meth c H locs k n _ (F0 m pc lh (.int x :: gV E (.ref a) :: st.map (gV E)))
  rw [e1]
  refine va_aldq F.1.1 F.1.2.1 F.2.2.2.1.1 hR.1 (cX S.1 a) 5 (arr_at (t := 5) hc (by decide)) (eT_at 5 (by decide)) (in_at h0 hv) hd ?_
  have e2 : va_rf (vRef E (vs.getD x.toNatClampNeg .null)) = gV E (.ref b) := by rw [clamp_eq, getD_at hv]; rfl
  show W p (eL E) e R s m args below meth c H locs k n _ (F0 m (pc + 1) lh (va_rf (vRef E (vs.getD x.toNatClampNeg .null)) :: st.map (gV E)))
  rw [e2]
  exact h p e R s m args below meth c H locs lh F hR hS hl
theorem g_aastore {E : EV} {Y : MI} {mc ms pc k n : Nat} {ls : List (Nat × Value)} {st : List Value} {S : PS} {K : RK → PS → Prop} {a b : Nat} {vs fs : List Value} {x : Int32} (hd : decode (mBy Y) pc = .ok (.aastore, 1)) (ha : a < XB) (hb : b < XB) (hc : S.1[a]? = some (105, vs)) (hcb : S.1[b]? = some (8, fs)) (h0 : 0 ≤ x.toInt) (hv : x.toInt.toNat < vs.length)
    (h : Go E Y mc ms (pc + 1) ls st (S.1.set a (105, vs.set x.toInt.toNat (.ref b)), S.2) k n K) : Go E Y mc ms pc ls (.ref b :: .int x :: .ref a :: st) S k n K := by
  intro p e R s m args below meth c H locs lh F hR hS hl
  have e1 : gV E (.ref a) = .ref (eP E a) := congrArg Value.ref (gA_in ha)
  have e4 : gV E (.ref b) = .ref (eP E b) := congrArg Value.ref (gA_in hb)
  show W p (eL E) e R s m args below meth c H locs k n _ (F0 m pc lh (gV E (.ref b) :: .int x :: gV E (.ref a) :: st.map (gV E)))
  rw [e1, e4]
  have hb2 := cW_at (E := E) hcb (Nat.le_of_ble_eq_true rfl)
  rw [cE_obj (by omega)] at hb2
  refine va_astq F.1.1 F.1.2.1 F.2.2.2.1.1 hR.1 hR.2 hS (cX S.1 a) 5 (cX S.1 b) 8 (arr_at (t := 5) hc (by decide)) (r := (RC 8, TC 8, NC 8)) (eT_at 5 (by decide)) hb2 (CL_at 8 (by decide)) (vp_in_iff.mpr ⟨h0, by omega⟩) hd (fun H1 locs1 hP1 hD1 hS1 => ?_)
  refine h p e R s m args below meth c H1 locs1 lh F ?_ hS1 hl
  refine Rep.setq (c' := (100 + 5, vs.set x.toInt.toNat (.ref b))) ?_ hR.2 hc (Nat.le_of_ble_eq_true rfl) (Nat.le_of_ble_eq_true rfl)
  rw [cE_arr, List.length_set]
  have e2 : va_up (fun j => vRef E (vs.getD j .null)) x.toNatClampNeg (some (eP E b)) = fun j => vRef E ((vs.set x.toInt.toNat (.ref b)).getD j .null) := by
    funext j
    rw [getD_set hv, clamp_eq]
    unfold va_up
    by_cases hj : j = x.toInt.toNat
    · rw [if_pos hj, if_pos hj]
      show _ = some (gA E b)
      rw [gA_in hb]
    · rw [if_neg hj, if_neg hj]
  show va_P (eD E) CL ((cW E S.1).set (cX S.1 a) (eP E a, .inl (eC E 5, vs.length, .inr (.inr (.inr (.inr (fun j => vRef E ((vs.set x.toInt.toNat (.ref b)).getD j .null)))))))) H1
  rw [← e2]
  exact hP1
/-! the script -/
theorem gA_scr (E : EV) : gA E (XB + 200) = eSb E := by
  unfold gA
  rw [if_neg (by omega), if_neg (by omega), if_neg (by omega), if_pos (by omega)]
theorem g_slen {E : EV} {Y : MI} {mc ms pc k n : Nat} {ls : List (Nat × Value)} {st : List Value} {S : PS} {K : RK → PS → Prop} (hd : decode (mBy Y) pc = .ok (.arraylength, 1))
    (h : Go E Y mc ms (pc + 1) ls (.int (nI (eSl E)) :: st) S k n K) : Go E Y mc ms pc ls (.ref (XB + 200) :: st) S k n K := by
  intro p e R s m args below meth c H locs lh F hR hS hl
  have e1 : gV E (.ref (XB + 200)) = .ref (eSb E) := congrArg Value.ref (gA_scr E)
  show W p (eL E) e R s m args below meth c H locs k n _ (F0 m pc lh (gV E (.ref (XB + 200)) :: st.map (gV E)))
  rw [e1]
  have hX := F.2.2.2
  exact va_slen F.1.1 F.1.2.1 hX.2.2.2.2.2.2.1 (Nat.lt_of_lt_of_le hX.1.2.2.1 hX.1.2.1) (fun q => Nat.lt_irrefl _ (Nat.lt_of_lt_of_le hX.1.2.2.1 q)) hS hd (h p e R s m args below meth c H locs lh F hR hS hl)
theorem g_sld {E : EV} {Y : MI} {mc ms pc k n : Nat} {ls : List (Nat × Value)} {st : List Value} {S : PS} {K : RK → PS → Prop} {x : Int32} (hd : decode (mBy Y) pc = .ok (.iaload, 1)) (h0 : 0 ≤ x.toInt) (h1 : x.toInt.toNat < eSl E)
    (h : Go E Y mc ms (pc + 1) ls (.int (eSx E x.toInt.toNat) :: st) S k n K) : Go E Y mc ms pc ls (.int x :: .ref (XB + 200) :: st) S k n K := by
  intro p e R s m args below meth c H locs lh F hR hS hl
  have e1 : gV E (.ref (XB + 200)) = .ref (eSb E) := congrArg Value.ref (gA_scr E)
  show W p (eL E) e R s m args below meth c H locs k n _ (F0 m pc lh (.int x :: gV E (.ref (XB + 200)) :: st.map (gV E)))
  rw [e1]
  have hX := F.2.2.2
  exact va_sld F.1.1 F.1.2.1 hX.2.2.2.2.2.2.1 (Nat.lt_of_lt_of_le hX.1.2.2.1 hX.1.2.1) (fun q => Nat.lt_irrefl _ (Nat.lt_of_lt_of_le hX.1.2.2.1 q)) hS (vp_in_iff.mpr ⟨h0, by omega⟩) hd (h p e R s m args below meth c H locs lh F hR hS hl)
/-! ENDS -/
theorem va_SF {E : EV} {s t : State} {H : Heap} {locs : List Loc} (h : va_S (eA E) s.heap H locs) (ht : t.heap = H) : va_F (eA E) s t := h.F ht
theorem Rep.to {E : EV} {S : PS} {z z' : Nat} {H : Heap} (h : Rep E S z H) (hz : S.2 = true → z = z') : Rep E S z' H := h
theorem g_ireturn {E : EV} {Y : MI} {mc ms pc k n : Nat} {ls : List (Nat × Value)} {S : PS} {K : RK → PS → Prop} {x : Int32} {ty : FieldType} (hd : decode (mBy Y) pc = .ok (.ireturn, 1)) (hr : mRt Y = some ty) (hn0 : narrow ty (.int x) = .int x) (hk : k ≤ mc) (hn : n ≤ ms) (hf : S.2 = true → k = mc)
    (h : K (.inl (some (.int x))) S) : Go E Y mc ms pc ls [.int x] S k n K := by
  intro p e R s m args below meth c H locs lh F hR hS hl
  refine W.widen hk hn (vx_ret ?_)
  exact W.zret (v := x) F.1.1 F.1.2.1 (F.2.1.1.trans hr) hn0 (fun t ht hW => ⟨⟨some (.int x), S, rfl, h, by rw [ht]; exact hR.to (fun q => by rw [hf q])⟩, hS.F ht⟩) hS.2.2 hd F.2.1.2.1
theorem g_return {E : EV} {Y : MI} {mc ms pc k n : Nat} {ls : List (Nat × Value)} {S : PS} {K : RK → PS → Prop} (hd : decode (mBy Y) pc = .ok (.return_, 1)) (hr : mRt Y = none) (hk : k ≤ mc) (hn : n ≤ ms) (hf : S.2 = true → k = mc)
    (h : K (.inl none) S) : Go E Y mc ms pc ls [] S k n K := by
  intro p e R s m args below meth c H locs lh F hR hS hl
  refine W.widen hk hn (vx_ret ?_)
  exact W.vret F.1.1 F.1.2.1 (F.2.1.1.trans hr) (fun t ht hW => ⟨⟨none, S, rfl, h, by rw [ht]; exact hR.to (fun q => by rw [hf q])⟩, hS.F ht⟩) hS.2.2 hd F.2.1.2.1
theorem g_dreturn {E : EV} {Y : MI} {mc ms pc k n : Nat} {ls : List (Nat × Value)} {S : PS} {K : RK → PS → Prop} {x : UInt64} (hd : decode (mBy Y) pc = .ok (.dreturn, 1)) (hr : mRt Y = some .double) (hk : k ≤ mc) (hn : n ≤ ms) (hf : S.2 = true → k = mc)
    (h : K (.inl (some (.double x))) S) : Go E Y mc ms pc ls [.double x] S k n K := by
  intro p e R s m args below meth c H locs lh F hR hS hl
  refine W.widen hk hn (vx_ret ?_)
  exact W.dret (v := x) F.1.1 F.1.2.1 (F.2.1.1.trans hr) (fun t ht hW => ⟨⟨some (.double x), S, rfl, h, by rw [ht]; exact hR.to (fun q => by rw [hf q])⟩, hS.F ht⟩) hS.2.2 hd F.2.1.2.1
theorem g_lreturn {E : EV} {Y : MI} {mc ms pc k n : Nat} {ls : List (Nat × Value)} {S : PS} {K : RK → PS → Prop} {x : Int64} (hd : decode (mBy Y) pc = .ok (.lreturn, 1)) (hr : mRt Y = some .long) (hk : k ≤ mc) (hn : n ≤ ms) (hf : S.2 = true → k = mc)
    (h : K (.inl (some (.long x))) S) : Go E Y mc ms pc ls [.long x] S k n K := by
  intro p e R s m args below meth c H locs lh F hR hS hl
  refine W.widen hk hn (vx_ret ?_)
  exact W.lret (v := x) F.1.1 F.1.2.1 (F.2.1.1.trans hr) (fun t ht hW => ⟨⟨some (.long x), S, rfl, h, by rw [ht]; exact hR.to (fun q => by rw [hf q])⟩, hS.F ht⟩) hS.2.2 hd F.2.1.2.1
/-! A METHOD'S CONTRACT -/
def PcA (E : EV) (args : List Value) (S : PS) : Array Value → State → Prop := fun v U => v = (args.map (gV E)).toArray ∧ EnvS E U ∧ Rep E S U.heap.size U.heap
def wd (Y : MI) : List Cond := Cond.code (mNm Y) (mBy Y) (mLo Y) (mRt Y) :: gtbl
def wdH (Y : MI) : List Cond := Cond.codeWith (mNm Y) (mBy Y) (mLo Y) (mRt Y) (mHh Y) :: gtbl
def rmY (Y : MI) (mc ms : Nat) : Room := { frames := mFr Y, cells := mc, slots := ms, locals := mWd Y }
/-- the call of Y with these arguments in this world comes to an end of which K holds, with at most mc cells of ms slots new -/
def Ev (E : EV) (Y : MI) (args : List Value) (S : PS) (mc ms : Nat) (K : RK → PS → Prop) : Prop :=
  vx_Met (eL E) (mNm Y) (wd Y) (rmY Y mc ms) (PcA E args S) (QcK E mc K) (XcK E mc K) mc ms (eA E)
def EvH (E : EV) (Y : MI) (args : List Value) (S : PS) (mc ms : Nat) (K : RK → PS → Prop) : Prop :=
  vx_Met (eL E) (mNm Y) (wdH Y) (rmY Y mc ms) (PcA E args S) (QcK E mc K) (XcK E mc K) mc ms (eA E)
theorem gL_args {E : EV} : ∀ (l : List Value) (i : Nat), lv_args i (l.map (gV E)) = gL E (lv_args i l)
  | [], _ => rfl
  | v :: l, i => by
    show (i, gV E v) :: lv_args (if (gV E v).category = 2 then i + 2 else i + 1) (l.map (gV E)) = (i, gV E v) :: gL E (lv_args (if v.category = 2 then i + 2 else i + 1) l)
    rw [gV_cat, gL_args l]
theorem lg_len {E : EV} (l : List Value) : (lg_sl (l.map (gV E))).length = (lg_sl l).length := by
  induction l with
  | nil => rfl
  | cons v l ih =>
    have h1 : lg_sl ((v :: l).map (gV E)) = (if (gV E v).category = 2 then [Slot.val (gV E v), Slot.second] else [Slot.val (gV E v)]) ++ lg_sl (l.map (gV E)) := rfl
    have h2 : lg_sl (v :: l) = (if v.category = 2 then [Slot.val v, Slot.second] else [Slot.val v]) ++ lg_sl l := rfl
    rw [h1, h2, List.length_append, List.length_append, ih, gV_cat]
    split <;> rfl
theorem frb {E : EV} {args : List Value} {S : PS} : FrameBlind (PcA E args S) := fun _ _ g mk h => ⟨h.1, h.2.1.call g mk _, h.2.2⟩
theorem Ev.of {E : EV} {Y : MI} {args : List Value} {S : PS} {mc ms : Nat} {K : RK → PS → Prop} (hy : plainName (mNm Y).cls = true) (hh : mHh Y = []) (hlen : (lg_sl args).length ≤ mLo Y) (h : Go E Y mc ms 0 (lv_args 0 args) [] S 0 0 K) : Ev E Y args S mc ms K := by
  refine vx_ofW (cc := mBy Y) (maxL := mLo Y) (ret := mRt Y) hy rfl ?_
  intro p e s m args' below meth c s₁ B hml ht hv
  obtain ⟨rfl, hE, hR⟩ := hv
  have hts := atoms_spec (ws := wd Y) B.pre
  have hnm := (name_of_methodNamed B.named B.method).1
  have hlen' : (lg_sl (args.map (gV E))).length ≤ mLo Y := by rw [lg_len]; exact hlen
  have hl := lv_entry (args.map (gV E)) (n := mLo Y) hlen'
  rw [lg_entry_eq]
  generalize (lg_sl (args.map (gV E)) ++ List.replicate (mLo Y - (lg_sl (args.map (gV E))).length) Slot.unset).toArray = lh at hl ⊢
  rw [gL_args] at hl
  have htab : c.exceptionTable.toList = tableOf (mHh Y) := by
    rw [hh]
    cases hx : c.exceptionTable.toList with
    | nil => rfl
    | cons a l => exact (ht a (by rw [hx]; exact List.mem_cons_self)).elim
  exact h p e (rmY Y mc ms) s m _ below meth c s.heap [] lh ⟨⟨B.exec, B.bytes, hml, findClass_of_methodNamed B.named, fun w hw => hts w (List.mem_cons_of_mem _ hw)⟩, ⟨B.returns, B.notSynchronized, hnm, htab⟩, ⟨Nat.le_refl _, Nat.le_refl _, Nat.le_refl _, Nat.le_refl _⟩, hE⟩ hR va_S.rf hl
theorem EvH.of {E : EV} {Y : MI} {args : List Value} {S : PS} {mc ms : Nat} {K : RK → PS → Prop} (hy : plainName (mNm Y).cls = true) (hlen : (lg_sl args).length ≤ mLo Y) (h : Go E Y mc ms 0 (lv_args 0 args) [] S 0 0 K) : EvH E Y args S mc ms K := by
  refine vx_ofWH (cc := mBy Y) (maxL := mLo Y) (ret := mRt Y) (hh := mHh Y) hy rfl ?_
  intro p e s m args' below meth c s₁ B hml hv
  obtain ⟨rfl, hE, hR⟩ := hv
  have hts := atoms_spec (ws := wdH Y) B.pre
  have hnm := (name_of_methodNamed B.named B.method).1
  have hlen' : (lg_sl (args.map (gV E))).length ≤ mLo Y := by rw [lg_len]; exact hlen
  have hl := lv_entry (args.map (gV E)) (n := mLo Y) hlen'
  rw [lg_entry_eq]
  generalize (lg_sl (args.map (gV E)) ++ List.replicate (mLo Y - (lg_sl (args.map (gV E))).length) Slot.unset).toArray = lh at hl ⊢
  rw [gL_args] at hl
  exact h p e (rmY Y mc ms) s m _ below meth c s.heap [] lh ⟨⟨B.exec, B.bytes, hml, findClass_of_methodNamed B.named, fun w hw => hts w (List.mem_cons_of_mem _ hw)⟩, ⟨B.returns, B.notSynchronized, hnm, vx_table (x := mNm Y) B (hts _ List.mem_cons_self)⟩, ⟨Nat.le_refl _, Nat.le_refl _, Nat.le_refl _, Nat.le_refl _⟩, hE⟩ hR va_S.rf hl
theorem Ev.mono {E : EV} {Y : MI} {args : List Value} {S : PS} {mc ms : Nat} {K K' : RK → PS → Prop} (hk : ∀ r S, K r S → K' r S) (h : Ev E Y args S mc ms K) : Ev E Y args S mc ms K' := by
  intro p e ha hc hkk s m args below hf happ hP hK
  obtain ⟨n, o, h1, h2, h3, h4⟩ := h p e ha hc hkk s m args below hf happ hP hK
  refine ⟨n, o, h1, h2, h3, ?_⟩
  rcases h4 with ⟨⟨⟨v, S', q1, q2, q3⟩, q4⟩, q5⟩ | ⟨q, q1, E1, ce, L, ⟨⟨S', q2, q3⟩, q4⟩, q5⟩
  · exact Or.inl ⟨⟨⟨v, S', q1, hk _ _ q2, q3⟩, q4⟩, q5⟩
  · exact Or.inr ⟨q, q1, E1, ce, L, ⟨⟨S', hk _ _ q2, q3⟩, q4⟩, q5⟩
/-- a contract that never throws, in the plain form -/
theorem Ev.plain {E : EV} {Y : MI} {args : List Value} {S : PS} {mc ms : Nat} {K : RK → PS → Prop} (hk : ∀ cn S, ¬ K (.inr cn) S) (h : Ev E Y args S mc ms K) : Met (eL E) (mNm Y) (wd Y) (rmY Y mc ms) (PcA E args S) (QcK E mc K) mc ms (eA E) := by
  intro p e ha hc hkk s m args below hf happ hP hK
  obtain ⟨n, o, h1, h2, h3, h4⟩ := h p e ha hc hkk s m args below hf happ hP hK
  refine ⟨n, o, h1, h2, h3, ?_⟩
  rcases h4 with h4 | ⟨q, q1, E1, ce, L, ⟨⟨S', q2, q3⟩, q4⟩, q5⟩
  · exact h4
  · exact (hk _ _ q2).elim
/-! CALLS -/
def KC (E : EV) (Y : MI) (mc ms pc : Nat) (ls : List (Nat × Value)) (rest : List Value) (fl : Bool) (k n : Nat) (K : RK → PS → Prop) : RK → PS → Prop := fun r S' => match r with
  | .inl v => Go E Y mc ms pc ls (v.toList ++ rest) (S'.1, S'.2 && fl) k n K
  | .inr cn => mHh Y = [] ∧ K (.inr cn) (S'.1, false)
/-- .. of a callee that doesn't throw -/
def KN (E : EV) (Y : MI) (mc ms pc : Nat) (ls : List (Nat × Value)) (rest : List Value) (fl : Bool) (k n : Nat) (K : RK → PS → Prop) : RK → PS → Prop := fun r S' => match r with
  | .inl v => Go E Y mc ms pc ls (v.toList ++ rest) (S'.1, S'.2 && fl) k n K
  | .inr _ => False
section RunGo
variable {E : EV} {Y : MI} {mc ms mc' ms' pc k n : Nat} {ls : List (Nat × Value)} {rest : List Value} {S : PS} {K : RK → PS → Prop} {p : Program} {e : Env} {R : Room} {s : State} {m : MethodId} {args : Array Value} {below : List Frame} {meth : Method} {c : Code} {H : Heap} {locs : List Loc} {lh : Array Slot} {a : Array Value} {st0 : List Value}
theorem Rep.back {st₀ t T' : State} {S' : PS} (hR : Rep E S (s.heap.size + k) H) (hz : H.size ≤ s.heap.size + k) (h0 : st₀.heap = H) (e1 : T'.heap = t.heap) (hR' : Rep E S' (st₀.heap.size + mc') t.heap) : Rep E (S'.1, S'.2 && S.2) (s.heap.size + (k + mc')) T'.heap := by
  rw [e1]
  exact hR'
theorem run_go (hr : vx_Run p (eL E) e R s m args below meth c H locs k n mc' ms' (F0 m pc lh st0) (rest.map (gV E)) (QcK E mc' (KC E Y mc ms (pc + 3) ls rest S.2 (k + mc') (n + ms') K) a) (XcK E mc' (KC E Y mc ms (pc + 3) ls rest S.2 (k + mc') (n + ms') K)) (eA E))
    (F : Fr E Y mc ms p R s m args meth c) (hR : Rep E S (s.heap.size + k) H) (hS : va_S (eA E) s.heap H locs) (hl : lv_has lh (mLo Y) (gL E ls)) (hk : k + mc' ≤ mc) (hn : n + ms' ≤ ms) :
    W p (eL E) e R s m args below meth c H locs k n (vx_MQ below (QcK E mc K) (XcK E mc K) args s mc ms (eA E)) (F0 m pc lh st0) := by
  refine W.sz (fun hz => ?_)
  intro T hT X
  rcases hr T hT X with ⟨v, st₀, t, T', L, h0, X', hL, e1, e2, ⟨⟨v', S', hv, hK', hR'⟩, hF⟩, st⟩ | ⟨q, st₀, t, T', L, E1, ce, h0, X', hL, e1, e2, ⟨⟨S', hK', hR'⟩, hF⟩, hce, hcv, hcl, st⟩
  · have hv' : v = v'.map (gV E) := Outcome.returned.inj hv
    subst hv'
    obtain ⟨k1, k2, k3⟩ := vx_keep h0 e1 hS (fun q _ h => h) (fun q h => h) hL hF
    have G : Go E Y mc ms (pc + 3) ls (v'.toList ++ rest) (S'.1, S'.2 && S.2) (k + mc') (n + ms') K := hK'
    obtain ⟨t2, a1, b1⟩ := G p e R s m args below meth c T'.heap (locs ++ L) lh F (Rep.back hR hz h0 e1 hR') k3 hl T' rfl X'
    have e3 : (v'.toList ++ rest).map (gV E) = (v'.map (gV E)).toList ++ rest.map (gV E) := by cases v' <;> rfl
    rw [e3] at a1
    exact ⟨t2, st t2 a1, b1⟩
  · obtain ⟨k1, k2, k3⟩ := vx_keep h0 e1 hS (fun q _ h => h) (fun q h => h) hL hF
    have G : mHh Y = [] ∧ K (.inr E1) (S'.1, false) := hK'
    have htab : c.exceptionTable.toList = [] := by rw [F.2.1.2.2.2, G.1]; rfl
    obtain ⟨t2, a1, b1⟩ := vx_out (Qc := QcK E mc K) (XC := XcK E mc K) (pc := pc) (ls := lh) (rest := rest.map (gV E)) (mc := mc) (ms := ms) (fun x hx => by rw [htab] at hx; cases hx) F.2.1.2.1 (by rw [e1]; exact hce) hcv hcl
      (fun t3 ht3 hA3 => ⟨⟨(S'.1, false), G.2, (by rw [ht3, e1]; exact hR')⟩, k3.F ht3⟩) k3.2.2 hk hn T' rfl X'
    exact ⟨t2, st.trans a1, b1⟩
theorem run_goN (hr : va_Run p (eL E) e R s m args below meth c H locs k n mc' ms' (F0 m pc lh st0) (rest.map (gV E)) (QcK E mc' (KN E Y mc ms (pc + 3) ls rest S.2 (k + mc') (n + ms') K) a) (eA E))
    (F : Fr E Y mc ms p R s m args meth c) (hR : Rep E S (s.heap.size + k) H) (hS : va_S (eA E) s.heap H locs) (hl : lv_has lh (mLo Y) (gL E ls)) :
    W p (eL E) e R s m args below meth c H locs k n (vx_MQ below (QcK E mc K) (XcK E mc K) args s mc ms (eA E)) (F0 m pc lh st0) := by
  refine W.sz (fun hz => ?_)
  intro T hT X
  obtain ⟨v, st₀, t, T', L, h0, X', hL, e1, e2, ⟨⟨v', S', hv, hK', hR'⟩, hF⟩, st⟩ := hr T hT X
  have hv' : v = v'.map (gV E) := Outcome.returned.inj hv
  subst hv'
  obtain ⟨k1, k2, k3⟩ := vx_keep h0 e1 hS (fun q _ h => h) (fun q h => h) hL hF
  have G : Go E Y mc ms (pc + 3) ls (v'.toList ++ rest) (S'.1, S'.2 && S.2) (k + mc') (n + ms') K := hK'
  obtain ⟨t2, a1, b1⟩ := G p e R s m args below meth c T'.heap (locs ++ L) lh F (Rep.back hR hz h0 e1 hR') k3 hl T' rfl X'
  have e3 : (v'.toList ++ rest).map (gV E) = (v'.map (gV E)).toList ++ rest.map (gV E) := by cases v' <;> rfl
  rw [e3] at a1
  exact ⟨t2, st t2 a1, b1⟩
end RunGo
/-! the words of a call -/
def LB (Y' : MI) (nA : Nat) : Prop := Cond.initialized (mNm Y').cls ∈ gtbl ∧ Cond.code (mNm Y') (mBy Y') (mLo Y') (mRt Y') ∈ gtbl ∧ ((mNm Y').cls ≠ "java/lang/invoke/MethodHandle" ∧ (mNm Y').cls ≠ "java/lang/invoke/VarHandle") ∧ (parseMethodDescriptor (mNm Y').desc).map (fun d => d.parameters.length) = some nA
def LV (own : String) (i : Nat) (C : String) (Y' : MI) (nA : Nat) : Prop := LB Y' nA ∧ Cond.methodLink own i (mNm Y') ∈ gtbl ∧ Cond.instanceMethod (mNm Y') ∈ gtbl ∧ Cond.selects C (mNm Y') (mNm Y') ∈ gtbl
def LQ (own : String) (i : Nat) (Y' : MI) (nA : Nat) : Prop := LB Y' nA ∧ Cond.methodLink own i (mNm Y') ∈ gtbl ∧ Cond.static (mNm Y') ∈ gtbl
def LI (own : String) (i : Nat) (Y' : MI) (nA : Nat) : Prop := LB Y' nA ∧ Cond.methodLink own i (mNm Y') ∈ gtbl ∧ Cond.instanceMethod (mNm Y') ∈ gtbl ∧ (mNm Y').name = "<init>" ∧ mRt Y' = none
def LSN (own : String) (i : Nat) (Y' : MI) (nA : Nat) : Prop := LB Y' nA ∧ (∃ host, (own, i, mNm Y', host) ∈ nestT) ∧ Cond.static (mNm Y') ∈ gtbl
def LIN (own : String) (i : Nat) (Y' : MI) (nA : Nat) : Prop := LB Y' nA ∧ (∃ host, (own, i, mNm Y', host) ∈ nestT) ∧ Cond.instanceMethod (mNm Y') ∈ gtbl ∧ (mNm Y').name = "<init>" ∧ mRt Y' = none
def Fits (Y Y' : MI) : Prop := mFr Y' + 1 ≤ mFr Y ∧ 8 + (mLo Y' + 11) + mWd Y' ≤ mWd Y
theorem wd_good {Y' : MI} (h : Cond.code (mNm Y') (mBy Y') (mLo Y') (mRt Y') ∈ gtbl) {args : Array Value} {s : State} (hts : ∀ w ∈ gtbl, w.before args s = true) : ∀ w ∈ wd Y', ∀ (a' : Array Value) (U : State), s.WarmedH U.vm → w.before a' U = true := by
  intro w hw a' U hW
  have hm : w ∈ gtbl := by
    rcases List.mem_cons.mp hw with rfl | hw
    · exact h
    · exact hw
  exact word_at hW (good_of_word (gt_good w hm)) (hts w hm)
theorem cB {own : String} {i nA mc' ms' : Nat} {Y Y' : MI} {R : Room} {s : State} {args : Array Value} (hL : LB Y' nA) (hl : (Cond.methodLink own i (mNm Y')).before args s = true) (hts : ∀ w ∈ gtbl, w.before args s = true) (hf : Fits Y Y') (h1 : mFr Y ≤ R.frames) (h2 : mWd Y ≤ R.locals) :
    CallB R s args own i (mNm Y') (mBy Y') (mLo Y') (mRt Y') (wd Y') (rmY Y' mc' ms') mc' ms' nA := by
  obtain ⟨l1, l2, l3, l4⟩ := hL
  refine ⟨rfl, rfl, Nat.le_trans hf.1 h1, Nat.le_trans hf.2 h2, wd_good l2 hts, List.mem_cons_self, hts _ l2, hts _ l1, l3, fun sig h => ?_, hl⟩
  rw [h] at l4
  exact (Option.some.inj l4).symm
theorem cN {own host : String} {i nA mc' ms' : Nat} {Y Y' : MI} {R : Room} {s : State} {args : Array Value} (hL : LB Y' nA) (hl : va_Nw (.methodLinkNest own i (mNm Y') host) s) (hts : ∀ w ∈ gtbl, w.before args s = true) (hf : Fits Y Y') (h1 : mFr Y ≤ R.frames) (h2 : mWd Y ≤ R.locals) :
    va_CN R s args own i (mNm Y') host (mBy Y') (mLo Y') (mRt Y') (wd Y') (rmY Y' mc' ms') mc' ms' nA := by
  obtain ⟨l1, l2, l3, l4⟩ := hL
  refine ⟨⟨rfl, rfl, Nat.le_trans hf.1 h1, Nat.le_trans hf.2 h2, wd_good l2 hts, List.mem_cons_self⟩, hts _ l2, hts _ l1, l3, fun sig h => ?_, va_Nw.use rfl hl⟩
  rw [h] at l4
  exact (Option.some.inj l4).symm
theorem PcA_of {E : EV} {S : PS} {k : Nat} {s U : State} {H : Heap} {locs : List Loc} {args : List Value} (hE : EnvS E s) (hR : Rep E S (s.heap.size + k) H) (hz : H.size ≤ s.heap.size + k) (hS : va_S (eA E) s.heap H locs) (hU : U.heap = H) (hW : s.WarmedH U.vm) : PcA E args S (args.map (gV E)).toArray U := by
  exact ⟨rfl, hE.step hW (by rw [hU]; exact hS), by rw [hU]; exact hR⟩
theorem cats_le {E : EV} {rest : List Value} (h : (rest.map fun v => v.category).sum ≤ 8) : ((rest.map (gV E)).map fun v => v.category).sum ≤ 8 := by rw [gV_cats]; exact h
theorem room_at {m : MethodId} {pc : Nat} {ls : Array Slot} {st rest : List Value} (h : (rest.map fun v => v.category).sum ≤ 8) : 2 * (F0 m pc ls st).monitorRoom + (rest.map fun v => v.category).sum ≤ 8 := lv_room (m := m) (pc := pc) (ls := ls) (rest := st) h
section Calls
variable {E : EV} {Y Y' : MI} {mc ms mc' ms' pc k n i nA : Nat} {ls : List (Nat × Value)} {As rest : List Value} {S : PS} {K : RK → PS → Prop}
theorem g_callV {b ci : Nat} {vs : List Value} (hd : decode (mBy Y) pc = .ok (.invokevirtual i, 3)) (hw : LV (mNm Y).cls i (RC ci) Y' nA) (hf : Fits Y Y') (hci : ci < 18) (hb : b < XB) (hc : S.1[b]? = some (ci, vs)) (hA : As.length = nA) (hr8 : (rest.map fun v => v.category).sum ≤ 8) (hk : k + mc' ≤ mc) (hn : n + ms' ≤ ms)
    (h : Ev E Y' (.ref b :: As) S mc' ms' (KC E Y mc ms (pc + 3) ls rest S.2 (k + mc') (n + ms') K)) : Go E Y mc ms pc ls (As.reverse ++ .ref b :: rest) S k n K := by
  intro p e R s m args below meth c H locs lh F hR hS hl
  refine W.sz (fun hz => ?_)
  have hts := F.1.2.2.2.2
  have e1 : gV E (.ref b) = .ref (eP E b) := congrArg Value.ref (gA_in hb)
  have e2 : (As.reverse ++ .ref b :: rest).map (gV E) = (As.map (gV E)).reverse ++ .ref (eP E b) :: rest.map (gV E) := by rw [List.map_append, List.map_cons, e1, List.map_reverse]
  rw [e2]
  have hcell := cW_at (E := E) hc (Nat.lt_trans hci (by decide))
  rw [cE_obj (by omega)] at hcell
  have hrun := vx_runV (p := p) (e := e) (below := below) (meth := meth) (locs := locs) (cells := k) (slots := n) (m := m) (g := F0 m pc lh ((As.map (gV E)).reverse ++ .ref (eP E b) :: rest.map (gV E))) (As := As.map (gV E)) (rest := rest.map (gV E)) (b := eP E b) (C := RC ci) (H := H)
    ⟨F.1.1, F.1.2.1, F.1.2.2.1, F.1.2.2.2.1, hts⟩ h ⟨cB hw.1 (hts _ hw.2.1) hts hf F.2.2.1.1 F.2.2.1.2.1, hts _ hw.2.2.1, hts _ hw.2.2.2⟩
    ⟨frb, va_recv F.2.2.2.1.1 hR.1 (CL_at ci hci) hcell, fun U hU hW => by have := PcA_of (args := .ref b :: As) F.2.2.2 hR hz hS hU hW; rw [List.map_cons, e1] at this; exact this⟩ rfl (by rw [List.length_map]; exact hA) hl.1 rfl (room_at (cats_le hr8)) hd ⟨Nat.le_trans hk F.2.2.1.2.2.1, Nat.le_trans hn F.2.2.1.2.2.2⟩
  exact run_go hrun F hR hS hl hk hn
theorem g_callS (hd : decode (mBy Y) pc = .ok (.invokestatic i, 3)) (hw : LQ (mNm Y).cls i Y' nA) (hf : Fits Y Y') (hA : As.length = nA) (hr8 : (rest.map fun v => v.category).sum ≤ 8) (hk : k + mc' ≤ mc) (hn : n + ms' ≤ ms)
    (h : Ev E Y' As S mc' ms' (KC E Y mc ms (pc + 3) ls rest S.2 (k + mc') (n + ms') K)) : Go E Y mc ms pc ls (As.reverse ++ rest) S k n K := by
  intro p e R s m args below meth c H locs lh F hR hS hl
  refine W.sz (fun hz => ?_)
  have hts := F.1.2.2.2.2
  have e2 : (As.reverse ++ rest).map (gV E) = (As.map (gV E)).reverse ++ rest.map (gV E) := by rw [List.map_append, List.map_reverse]
  rw [e2]
  have hrun := vx_runS (p := p) (e := e) (below := below) (meth := meth) (locs := locs) (cells := k) (slots := n) (m := m) (g := F0 m pc lh ((As.map (gV E)).reverse ++ rest.map (gV E))) (As := As.map (gV E)) (rest := rest.map (gV E)) (H := H)
    ⟨F.1.1, F.1.2.1, F.1.2.2.1, F.1.2.2.2.1, hts⟩ h ⟨cB hw.1 (hts _ hw.2.1) hts hf F.2.2.1.1 F.2.2.1.2.1, hts _ hw.2.2⟩
    ⟨frb, fun U hU hW => PcA_of (args := As) F.2.2.2 hR hz hS hU hW⟩ rfl (by rw [List.length_map]; exact hA) hl.1 rfl (room_at (cats_le hr8)) hd ⟨Nat.le_trans hk F.2.2.1.2.2.1, Nat.le_trans hn F.2.2.1.2.2.2⟩
  exact run_go hrun F hR hS hl hk hn
theorem g_callSN (hd : decode (mBy Y) pc = .ok (.invokestatic i, 3)) (hw : LSN (mNm Y).cls i Y' nA) (hf : Fits Y Y') (hA : As.length = nA) (hr8 : (rest.map fun v => v.category).sum ≤ 8) (hk : k + mc' ≤ mc) (hn : n + ms' ≤ ms)
    (h : Ev E Y' As S mc' ms' (KN E Y mc ms (pc + 3) ls rest S.2 (k + mc') (n + ms') K)) : Go E Y mc ms pc ls (As.reverse ++ rest) S k n K := by
  intro p e R s m args below meth c H locs lh F hR hS hl
  refine W.sz (fun hz => ?_)
  have hts := F.1.2.2.2.2
  obtain ⟨host, hh⟩ := hw.2.1
  have e2 : (As.reverse ++ rest).map (gV E) = (As.map (gV E)).reverse ++ rest.map (gV E) := by rw [List.map_append, List.map_reverse]
  rw [e2]
  have hrun := va_runSN (p := p) (e := e) (below := below) (meth := meth) (locs := locs) (cells := k) (slots := n) (m := m) (g := F0 m pc lh ((As.map (gV E)).reverse ++ rest.map (gV E))) (As := As.map (gV E)) (rest := rest.map (gV E)) (H := H)
    ⟨F.1.1, F.1.2.1, F.1.2.2.1, F.1.2.2.2.1, hts⟩ (h.plain (fun cn S hq => hq)) ⟨cN hw.1 (F.2.2.2.2.2.2.2.1.1 _ hh) hts hf F.2.2.1.1 F.2.2.1.2.1, hts _ hw.2.2, trivial⟩
    ⟨frb, fun U hU hW => PcA_of (args := As) F.2.2.2 hR hz hS hU hW⟩ rfl (by rw [List.length_map]; exact hA) hl.1 rfl (room_at (cats_le hr8)) hd ⟨Nat.le_trans hk F.2.2.1.2.2.1, Nat.le_trans hn F.2.2.1.2.2.2⟩
  exact run_goN hrun F hR hS hl
theorem g_callI {b : Nat} (hd : decode (mBy Y) pc = .ok (.invokespecial i, 3)) (hw : LI (mNm Y).cls i Y' nA) (hf : Fits Y Y') (hA : As.length = nA) (hr8 : (rest.map fun v => v.category).sum ≤ 8) (hk : k + mc' ≤ mc) (hn : n + ms' ≤ ms)
    (h : Ev E Y' (.ref b :: As) S mc' ms' (KN E Y mc ms (pc + 3) ls rest S.2 (k + mc') (n + ms') K)) : Go E Y mc ms pc ls (As.reverse ++ .ref b :: rest) S k n K := by
  intro p e R s m args below meth c H locs lh F hR hS hl
  refine W.sz (fun hz => ?_)
  have hts := F.1.2.2.2.2
  have e2 : (As.reverse ++ .ref b :: rest).map (gV E) = (As.map (gV E)).reverse ++ .ref (gA E b) :: rest.map (gV E) := by rw [List.map_append, List.map_cons, List.map_reverse]; rfl
  rw [e2]
  have hB := cB (mc' := mc') (ms' := ms') hw.1 (hts _ hw.2.1) hts hf F.2.2.1.1 F.2.2.1.2.1
  rw [hw.2.2.2.2] at hB
  have hrun := va_runI (p := p) (e := e) (below := below) (meth := meth) (locs := locs) (cells := k) (slots := n) (m := m) (g := F0 m pc lh ((As.map (gV E)).reverse ++ .ref (gA E b) :: rest.map (gV E))) (As := As.map (gV E)) (rest := rest.map (gV E)) (b := gA E b) (H := H)
    ⟨F.1.1, F.1.2.1, F.1.2.2.1, F.1.2.2.2.1, hts⟩ (h.plain (fun cn S hq => hq)) ⟨hB, hw.2.2.2.1, hts _ hw.2.2.1⟩
    ⟨frb, fun U hU hW => PcA_of (args := .ref b :: As) F.2.2.2 hR hz hS hU hW⟩ rfl (by rw [List.length_map]; exact hA) hl.1 rfl (room_at (cats_le hr8)) hd ⟨Nat.le_trans hk F.2.2.1.2.2.1, Nat.le_trans hn F.2.2.1.2.2.2⟩
  exact run_goN hrun F hR hS hl
theorem g_callIN {b : Nat} (hd : decode (mBy Y) pc = .ok (.invokespecial i, 3)) (hw : LIN (mNm Y).cls i Y' nA) (hf : Fits Y Y') (hA : As.length = nA) (hr8 : (rest.map fun v => v.category).sum ≤ 8) (hk : k + mc' ≤ mc) (hn : n + ms' ≤ ms)
    (h : Ev E Y' (.ref b :: As) S mc' ms' (KN E Y mc ms (pc + 3) ls rest S.2 (k + mc') (n + ms') K)) : Go E Y mc ms pc ls (As.reverse ++ .ref b :: rest) S k n K := by
  intro p e R s m args below meth c H locs lh F hR hS hl
  refine W.sz (fun hz => ?_)
  have hts := F.1.2.2.2.2
  obtain ⟨host, hh⟩ := hw.2.1
  have e2 : (As.reverse ++ .ref b :: rest).map (gV E) = (As.map (gV E)).reverse ++ .ref (gA E b) :: rest.map (gV E) := by rw [List.map_append, List.map_cons, List.map_reverse]; rfl
  rw [e2]
  have hB := cN (mc' := mc') (ms' := ms') hw.1 (F.2.2.2.2.2.2.2.1.1 _ hh) hts hf F.2.2.1.1 F.2.2.1.2.1
  rw [hw.2.2.2.2] at hB
  have hrun := va_runIN (p := p) (e := e) (below := below) (meth := meth) (locs := locs) (cells := k) (slots := n) (m := m) (g := F0 m pc lh ((As.map (gV E)).reverse ++ .ref (gA E b) :: rest.map (gV E))) (As := As.map (gV E)) (rest := rest.map (gV E)) (b := gA E b) (H := H)
    ⟨F.1.1, F.1.2.1, F.1.2.2.1, F.1.2.2.2.1, hts⟩ (h.plain (fun cn S hq => hq)) ⟨hB, hw.2.2.2.1, hts _ hw.2.2.1⟩
    ⟨frb, fun U hU hW => PcA_of (args := .ref b :: As) F.2.2.2 hR hz hS hU hW⟩ rfl (by rw [List.length_map]; exact hA) hl.1 rfl (room_at (cats_le hr8)) hd ⟨Nat.le_trans hk F.2.2.1.2.2.1, Nat.le_trans hn F.2.2.1.2.2.2⟩
  exact run_goN hrun F hR hS hl
end Calls
