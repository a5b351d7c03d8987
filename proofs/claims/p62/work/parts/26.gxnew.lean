/-! MOVING WORLDS: new cells -/
theorem Fr.J {E : EV} {Y : MI} {mc ms : Nat} {p : Program} {R : Room} {s : State} {m : MethodId} {args : Array Value} {meth : Method} {c : Code} (F : Fr E Y mc ms p R s m args meth c) : EnvJ E s := F.2.2.2.2.2.2.2.2.2.2
theorem eA_new {E : EV} {s : State} (h : eB E ≤ s.heap.size) : ∀ q, s.heap.size ≤ q → eA E q := fun _ hq => Nat.le_trans h hq
theorem cW_push {E : EV} {w : List PC} {c : PC} (hk : c.1 < 900) : cW E (w ++ [c]) = cW E w ++ [(eP E w.length, cE E c)] := by
  unfold cW
  rw [List.zipIdx_append, List.filter_append, List.map_append]
  have e : [c].zipIdx (0 + w.length) = [(c, w.length)] := by rw [Nat.zero_add]; rfl
  rw [e, List.filter_cons_of_pos (kp_of hk)]
  rfl
theorem arrV_congr {cA : ClassId} {N : Nat} {f g : Nat → Value} (h : ∀ j, j < N → f j = g j) : arrV cA N f = arrV cA N g := by
  have e : (Array.ofFn (n := N) fun j => f j.val) = Array.ofFn (n := N) fun j => g j.val := by
    congr 1
    funext j
    exact h j.val j.isLt
  unfold arrV
  rw [e]
theorem cb8 {N : Nat} {ty : FieldType} (hb : N ≤ 16384) (h : componentBytes ty ≤ 8) : N * componentBytes ty ≤ 536870912 := Nat.le_trans (Nat.mul_le_mul hb h) (by decide)
theorem dV_g (E : EV) (ty : FieldType) : gV E (defaultValue ty) = defaultValue ty := by cases ty <;> rfl
def dfl (ci : Nat) : List Value := (List.range (NC ci)).map (fun j => defaultValue (TYC ci j))
theorem sc_dv {w : List PC} (ty : FieldType) : Sc w (defaultValue ty) := by cases ty <;> exact trivial
theorem sc_dfl {w : List PC} {ci : Nat} : ScV w (dfl ci) := fun v hv => by
  obtain ⟨j, -, rfl⟩ := List.mem_map.mp hv
  exact sc_dv _
theorem sc_rep {w : List PC} {N : Nat} {v : Value} (h : Sc w v) : ScV w (List.replicate N v) := fun x hx => by
  rw [(List.mem_replicate.mp hx).2]
  exact h
theorem RA_uniq {U : State} {c1 c2 : ClassId} {ty : FieldType} (h1 : va_RA U c1 ty) (h2 : va_RA U c2 ty) : c1 = c2 := by
  cases ty with
  | object C =>
    obtain ⟨_, _, _, _, _, h1⟩ := h1
    obtain ⟨_, _, _, _, _, h2⟩ := h2
    exact Option.some.inj (h1.symm.trans h2)
  | _ => exact Option.some.inj (Eq.trans (Eq.symm h1) h2)
theorem tys_eq {E : EV} {s : State} {t : Nat} {cA : ClassId} (ht : t < 6) (h : va_K (eD E) CL (eT E ++ [(cA, aT t)]) s) : cA = eC E t := by
  have h1 := (h.2 t (eC E t, aT t) (by rw [List.getElem?_append_left (by show t < 6; exact ht)]; exact eT_at t ht)).2
  have h2 := (h.2 6 (cA, aT t) rfl).2
  exact RA_uniq h2 h1
theorem rep_getD {N j : Nat} {v : Value} : (List.replicate N v).getD j .null = if j < N then v else .null := by
  rw [List.getD_eq_getElem?_getD, List.getElem?_replicate]
  split <;> rfl
section XNew
variable {sc : SC} {Y : MI} {mc ms pc k n : Nat} {ls : List (Nat × Value)} {st : List Value} {ww : List PC} {K : Option Value → List PC → Prop}
theorem push_gx {E : EV} {p : Program} {e : Env} {R : Room} {s : State} {m : MethodId} {args : Array Value} {below : List Frame} {meth : Method} {c : Code} {H1 : Heap} {locs : List Loc} {lh : Array Slot} {c1 : PC} {q : Nat} {x : va_E}
    (hE : SE sc E) (h : GX sc Y mc ms pc ls (.ref ww.length :: st) (ww ++ [c1]) k n K) (hk9 : c1.1 < 900) (hcc : ScV ww c1.2) (hx : ww.length < XB) (hxe : x = cE E c1)
    (F : Fr E Y mc ms p R s m args meth c) (hP1 : va_P (eD E) CL (cW E ww ++ [(q, x)]) H1) (hD1 : va_D (eA E) (cW E ww ++ [(q, x)])) (hS1 : va_S (eA E) s.heap H1 locs) (hl : lv_has lh (mLo Y) (gL E ls)) (hw : WfW ww) (hsl : ScL ww ls) (hst : ScV ww st) :
    W p (eL E) e R s m args below meth c H1 locs k n (MQ below (QX E ww K) args s mc ms (eA E)) (F0 m pc lh (.ref q :: st.map (gV E))) := by
  subst hxe
  have hX : Ex ww E (wAd E (fun x => if x = ww.length then q else eAd E x)) := Ex.push
  have e0 : eP (wAd E (fun x => if x = ww.length then q else eAd E x)) ww.length = q := if_pos rfl
  have e1 : cW (wAd E (fun x => if x = ww.length then q else eAd E x)) (ww ++ [c1]) = cW E ww ++ [(q, cE E c1)] := by
    rw [cW_push hk9, cW_ex hX hw, cE_ex hX hcc, e0]
  have g := h (wAd E (fun x => if x = ww.length then q else eAd E x)) hE p e R s m args below meth c H1 locs lh F ⟨by rw [e1]; exact hP1, by rw [e1]; exact hD1⟩ hS1 (by rw [gL_ex hX hsl]; exact hl) (hw.push hcc) (hsl.gr Gr.push) (sc_c (.inr (mk_.push hk9)) (hst.gr Gr.push))
  have e2 : (Value.ref ww.length :: st).map (gV (wAd E (fun x => if x = ww.length then q else eAd E x))) = .ref q :: st.map (gV E) := by
    rw [List.map_cons, mp_ex hX hst]
    congr 1
    exact congrArg Value.ref ((gA_in hx).trans e0)
  rw [e2] at g
  exact W.up (MQ.up (QX.up hX Gr.push)) g
theorem x_new {i ci : Nat} (hd : decode (mBy Y) pc = .ok (.new i, 3)) (hci : ci < 18) (h1 : Cond.classLink (mNm Y).cls i (RC ci) ∈ gtbl) (h2 : Cond.instantiable (RC ci) (NC ci) ∈ gtbl) (h3 : Cond.initialized (RC ci) ∈ gtbl) (hk : k + 1 ≤ mc) (hn : n + NC ci ≤ ms) (hx : ww.length < XB)
    (h : GX sc Y mc ms (pc + 3) ls (.ref ww.length :: st) (ww ++ [(ci, dfl ci)]) (k + 1) (n + NC ci) K) : GX sc Y mc ms pc ls st ww k n K := by
  intro E hE p e R s m args below meth c H locs lh F hR hS hl hw hsl hst
  have hT := F.1.2.2.2.2
  refine va_new (ci := ci) (fs := (dfl ci).map (gV E)) (C := RC ci) (T := TC ci) (N := NC ci) F.1.1 F.1.2.1 hT (uwC ci hci) (TYC ci) (tyC ci hci) F.1.2.2.2.1 (hT _ h1) (hT _ h2) (hT _ h3) F.2.2.2.1.1 hR.1 hR.2 hS (eA_new F.2.2.2.1.2.1) (CL_at ci hci) ?_ (Nat.le_trans hk F.2.2.1.2.2.1) (Nat.le_trans hn F.2.2.1.2.2.2) hd (fun q H1 hP1 hD1 hS1 => ?_)
  · intro j hj
    have e1 : (dfl ci)[j]? = some (defaultValue (TYC ci j)) := by unfold dfl; rw [List.getElem?_map, List.getElem?_range hj]; rfl
    show _ = ((dfl ci).map (gV E)).getD j .null
    rw [List.getD_eq_getElem?_getD, List.getElem?_map, e1]
    exact (dV_g E _).symm
  · exact push_gx hE h (Nat.lt_trans hci (Nat.le_of_ble_eq_true rfl)) sc_dfl hx (cE_obj (by omega)).symm F hP1 hD1 hS1 hl hw hsl hst
theorem x_newarr_int {N : Nat} {x : Int32} (hd : decode (mBy Y) pc = .ok (.newarray .int, 2)) (h1 : Cond.arrayClass (newarray.typeOf .int) ∈ gtbl) (h0 : 0 ≤ x.toInt) (hN : x.toInt.toNat = N) (hb : N ≤ 16384) (hk : k + 1 ≤ mc) (hn : n + N ≤ ms) (hx : ww.length < XB)
    (h : GX sc Y mc ms (pc + 2) ls (.ref ww.length :: st) (ww ++ [(100, List.replicate N (.int 0))]) (k + 1) (n + N) K) : GX sc Y mc ms pc ls (.int x :: st) ww k n K := by
  intro E hE p e R s m args below meth c H locs lh F hR hS hl hw hsl hst
  refine va_newa (atype := .int) (a0 := (N, .inl (fun j => vInt ((List.replicate N (.int 0)).getD j .null)))) F.1.1 F.1.2.1 (F.1.2.2.2.2 _ h1) rfl F.2.2.2.1.1 hR.1 hR.2 hS (eA_new F.2.2.2.1.2.1) (fun cA => ?_) (fun q => by have := Int32.lt_iff_toInt_lt.mp q; simp at this; omega) hN (cb8 (ty := .int) hb (by decide)) (Nat.le_trans hk F.2.2.1.2.2.1) (Nat.le_trans hn F.2.2.1.2.2.2) hd (fun q cA H1 hK1 hP1 hD1 hS1 => ?_)
  · show arrV cA N (fun j => .int (vInt ((List.replicate N (.int 0)).getD j .null))) = arrV cA N (fun _ => defaultValue (newarray.typeOf .int))
    refine arrV_congr (fun j hj => ?_)
    rw [rep_getD, if_pos hj]
    rfl
  · have hc : cA = eC E 0 := tys_eq (t := 0) (by decide) hK1
    subst hc
    refine push_gx hE h (Nat.le_of_ble_eq_true rfl) (sc_rep trivial) hx ?_ F hP1 hD1 hS1 hl hw hsl (sc_t hst)
    rw [show (100, List.replicate N (Value.int 0)) = ((100 + 0, List.replicate N (Value.int 0)) : PC) from rfl, cE_arr, List.length_replicate]
    rfl
theorem x_newarr_byte {N : Nat} {x : Int32} (hd : decode (mBy Y) pc = .ok (.newarray .byte, 2)) (h1 : Cond.arrayClass (newarray.typeOf .byte) ∈ gtbl) (h0 : 0 ≤ x.toInt) (hN : x.toInt.toNat = N) (hb : N ≤ 16384) (hk : k + 1 ≤ mc) (hn : n + N ≤ ms) (hx : ww.length < XB)
    (h : GX sc Y mc ms (pc + 2) ls (.ref ww.length :: st) (ww ++ [(101, List.replicate N (.int 0))]) (k + 1) (n + N) K) : GX sc Y mc ms pc ls (.int x :: st) ww k n K := by
  intro E hE p e R s m args below meth c H locs lh F hR hS hl hw hsl hst
  refine va_newa (atype := .byte) (a0 := (N, .inl (fun j => vInt ((List.replicate N (.int 0)).getD j .null)))) F.1.1 F.1.2.1 (F.1.2.2.2.2 _ h1) rfl F.2.2.2.1.1 hR.1 hR.2 hS (eA_new F.2.2.2.1.2.1) (fun cA => ?_) (fun q => by have := Int32.lt_iff_toInt_lt.mp q; simp at this; omega) hN (cb8 (ty := .byte) hb (by decide)) (Nat.le_trans hk F.2.2.1.2.2.1) (Nat.le_trans hn F.2.2.1.2.2.2) hd (fun q cA H1 hK1 hP1 hD1 hS1 => ?_)
  · show arrV cA N (fun j => .int (vInt ((List.replicate N (.int 0)).getD j .null))) = arrV cA N (fun _ => defaultValue (newarray.typeOf .byte))
    refine arrV_congr (fun j hj => ?_)
    rw [rep_getD, if_pos hj]
    rfl
  · have hc : cA = eC E 1 := tys_eq (t := 1) (by decide) hK1
    subst hc
    refine push_gx hE h (Nat.le_of_ble_eq_true rfl) (sc_rep trivial) hx ?_ F hP1 hD1 hS1 hl hw hsl (sc_t hst)
    rw [show (101, List.replicate N (Value.int 0)) = ((100 + 1, List.replicate N (Value.int 0)) : PC) from rfl, cE_arr, List.length_replicate]
    rfl
theorem x_newarr_bool {N : Nat} {x : Int32} (hd : decode (mBy Y) pc = .ok (.newarray .boolean, 2)) (h1 : Cond.arrayClass (newarray.typeOf .boolean) ∈ gtbl) (h0 : 0 ≤ x.toInt) (hN : x.toInt.toNat = N) (hb : N ≤ 16384) (hk : k + 1 ≤ mc) (hn : n + N ≤ ms) (hx : ww.length < XB)
    (h : GX sc Y mc ms (pc + 2) ls (.ref ww.length :: st) (ww ++ [(102, List.replicate N (.int 0))]) (k + 1) (n + N) K) : GX sc Y mc ms pc ls (.int x :: st) ww k n K := by
  intro E hE p e R s m args below meth c H locs lh F hR hS hl hw hsl hst
  refine va_newa (atype := .boolean) (a0 := (N, .inl (fun j => vInt ((List.replicate N (.int 0)).getD j .null)))) F.1.1 F.1.2.1 (F.1.2.2.2.2 _ h1) rfl F.2.2.2.1.1 hR.1 hR.2 hS (eA_new F.2.2.2.1.2.1) (fun cA => ?_) (fun q => by have := Int32.lt_iff_toInt_lt.mp q; simp at this; omega) hN (cb8 (ty := .boolean) hb (by decide)) (Nat.le_trans hk F.2.2.1.2.2.1) (Nat.le_trans hn F.2.2.1.2.2.2) hd (fun q cA H1 hK1 hP1 hD1 hS1 => ?_)
  · show arrV cA N (fun j => .int (vInt ((List.replicate N (.int 0)).getD j .null))) = arrV cA N (fun _ => defaultValue (newarray.typeOf .boolean))
    refine arrV_congr (fun j hj => ?_)
    rw [rep_getD, if_pos hj]
    rfl
  · have hc : cA = eC E 2 := tys_eq (t := 2) (by decide) hK1
    subst hc
    refine push_gx hE h (Nat.le_of_ble_eq_true rfl) (sc_rep trivial) hx ?_ F hP1 hD1 hS1 hl hw hsl (sc_t hst)
    rw [show (102, List.replicate N (Value.int 0)) = ((100 + 2, List.replicate N (Value.int 0)) : PC) from rfl, cE_arr, List.length_replicate]
    rfl
theorem x_anewarr {N i : Nat} {x : Int32} (hd : decode (mBy Y) pc = .ok (.anewarray i, 3)) (h1 : Cond.classLink (mNm Y).cls i "java/lang/Object" ∈ gtbl) (h0 : 0 ≤ x.toInt) (hN : x.toInt.toNat = N) (hb : N ≤ 16384) (hk : k + 1 ≤ mc) (hn : n + N ≤ ms) (hx : ww.length < XB)
    (h : GX sc Y mc ms (pc + 3) ls (.ref ww.length :: st) (ww ++ [(103, List.replicate N .null)]) (k + 1) (n + N) K) : GX sc Y mc ms pc ls (.int x :: st) ww k n K := by
  intro E hE p e R s m args below meth c H locs lh F hR hS hl hw hsl hst
  refine va_newq F.1.1 F.1.2.1 F.1.2.2.2.1 (F.1.2.2.2.2 _ h1) F.J.1.1 F.2.2.2.1.1 hR.1 hR.2 hS (eA_new F.2.2.2.1.2.1) (fun q => by have := Int32.lt_iff_toInt_lt.mp q; simp at this; omega) hN (by omega) (Nat.le_trans hk F.2.2.1.2.2.1) (Nat.le_trans hn F.2.2.1.2.2.2) hd (fun q cA H1 hK1 hP1 hD1 hS1 => ?_)
  have hc : cA = eC E 3 := tys_eq (t := 3) (by decide) hK1
  subst hc
  refine push_gx hE h (Nat.le_of_ble_eq_true rfl) (sc_rep trivial) hx ?_ F hP1 hD1 hS1 hl hw hsl (sc_t hst)
  rw [show (103, List.replicate N Value.null) = ((100 + 3, List.replicate N Value.null) : PC) from rfl, cE_arr, List.length_replicate]
  show Sum.inl (eC E 3, N, _) = Sum.inl (eC E 3, N, Sum.inr (Sum.inr (Sum.inr (Sum.inr (fun j => vRef E ((List.replicate N .null).getD j .null))))))
  congr 7
  funext j
  rw [rep_getD]
  split <;> rfl
end XNew
