/-! MOVING WORLDS: references of a class, rows of objects, constants -/
theorem gA_J (E : EV) {j : Nat} (h : j < 700) : gA E (XB + 300 + j) = eK E (100 + j) := by
  unfold gA
  rw [if_neg (by omega), if_neg (by omega), if_neg (by omega), if_neg (by omega), if_pos (by omega)]
  rw [show XB + 300 + j - (XB + 200) = 100 + j by omega]
/-- b names an object of the class C: a made cell, a small box, a text constant -/
def Kx (w : List PC) (b : Nat) (C : String) : Prop := (∃ ci vs, b < XB ∧ w[b]? = some (ci, vs) ∧ ci < 18 ∧ RC ci = C) ∨ (∃ j, j < 256 ∧ b = XB + 300 + j ∧ C = "java/lang/Integer") ∨ (∃ j, j < nLit ∧ b = XB + j ∧ C = "java/lang/String")
theorem cX_lt {w : List PC} {a b : Nat} {c : PC} (h : w[a]? = some c) (hk : c.1 < 900) (hl : a < b) : cX w a < cX w b := by
  obtain ⟨d, rfl⟩ : ∃ d, b = a + (d + 1) := ⟨b - a - 1, by omega⟩
  have ha := (List.getElem?_eq_some_iff.mp (zi_at h)).1
  have e : (w.zipIdx.drop a).take (d + 1) = (c, a) :: (w.zipIdx.drop (a + 1)).take d := by
    rw [List.drop_eq_getElem_cons ha, List.take_succ_cons, (List.getElem?_eq_some_iff.mp (zi_at h)).2]
  unfold cX
  rw [List.take_add, List.filter_append, List.length_append, e, List.filter_cons_of_pos (kp_of hk), List.length_cons]
  omega
theorem vp0 {x : Int32} (h0 : 0 ≤ x.toInt) : ¬ x < 0 := fun q => by
  have := Int32.lt_iff_toInt_lt.mp q
  simp at this
  omega
section XRef
variable {sc : SC} {Y : MI} {mc ms pc k n i : Nat} {ls : List (Nat × Value)} {st : List Value} {ww : List PC} {K : Option Value → List PC → Prop}
theorem recvX {E : EV} {p : Program} {R : Room} {s : State} {m : MethodId} {args : Array Value} {meth : Method} {c : Code} {H : Heap} {locs : List Loc} {b : Nat} {C : String} (h : Kx ww b C) (F : Fr E Y mc ms p R s m args meth c) (hR : Rep E (ww, false) 0 H) (hS : va_S (eA E) s.heap H locs) :
    ∃ cell : Cell, H[gA E b]? = some cell ∧ cell.vm.isStatics = false ∧ s.vm.findClass C = some cell.cls := by
  rcases h with ⟨ci, vs, hb, hc, hci, rfl⟩ | ⟨j, hj, rfl, rfl⟩ | ⟨j, hj, rfl, rfl⟩
  · have hcell := cW_at (E := E) hc (Nat.lt_trans hci (by decide))
    rw [cE_obj (by omega)] at hcell
    rw [gA_in hb]
    exact va_recv F.2.2.2.1.1 hR.1 (CL_at ci hci) hcell
  · rw [gA_J E (by omega)]
    exact va_Orecv (F.J.2.2.2.2.1.2.2.1 j hj) hS
  · rw [gA_K E hj]
    exact vk_recv F.2.2.2.2.2.2.2.2.1.1 hj hS
theorem x_cast {b : Nat} {C : String} (hd : decode (mBy Y) pc = .ok (.checkcast i, 3)) (hw0 : Cond.classLink (mNm Y).cls i C ∈ gtbl) (hk : Kx ww b C) (h : GX sc Y mc ms (pc + 3) ls (.ref b :: st) ww k n K) : GX sc Y mc ms pc ls (.ref b :: st) ww k n K := by
  intro E hE p e R s m args below meth c H locs lh F hR hS hl hw hsl hst
  exact va_castE F.1.1 F.1.2.1 F.1.2.2.2.1 (F.1.2.2.2.2 _ hw0) (recvX hk F hR hS) hd (h E hE p e R s m args below meth c H locs lh F hR hS hl hw hsl hst)
theorem x_castA {a t : Nat} {vs : List Value} {nm : String} (hd : decode (mBy Y) pc = .ok (.checkcast i, 3)) (hw0 : Cond.classLink (mNm Y).cls i nm ∈ gtbl) (ht : t < 3) (hnm : "[" ++ (aT t).toString = nm) (ha : a < XB) (hc : ww[a]? = some (100 + t, vs)) (h : GX sc Y mc ms (pc + 3) ls (.ref a :: st) ww k n K) : GX sc Y mc ms pc ls (.ref a :: st) ww k n K := by
  intro E hE p e R s m args below meth c H locs lh F hR hS hl hw hsl hst
  have e1 : gV E (.ref a) = .ref (eP E a) := congrArg Value.ref (gA_in ha)
  have g := h E hE p e R s m args below meth c H locs lh F hR hS hl hw hsl hst
  rw [List.map_cons, e1] at g ⊢
  have hra := (F.2.2.2.1.1.2 t _ (eT_at t (by omega))).2
  have hf : s.vm.findClass nm = some (eC E t) := by
    subst hnm
    match t, ht with
    | 0, _ => exact hra
    | 1, _ => exact hra
    | 2, _ => exact hra
  exact va_castA F.1.1 F.1.2.1 F.1.2.2.2.1 (F.1.2.2.2.2 _ hw0) hR.1 (cX ww a) (arr_at hc (by omega)) hf hd g
theorem rf_gV {E : EV} {v : Value} (h : v = .null ∨ ∃ b, v = .ref b) : va_rf (vRef E v) = gV E v := by
  rcases h with rfl | ⟨b, rfl⟩ <;> rfl
theorem x_aaload {a : Nat} {vs : List Value} {x : Int32} {v : Value} (hd : decode (mBy Y) pc = .ok (.aaload, 1)) (ha : a < XB) (hc : ww[a]? = some (103, vs)) (h0 : 0 ≤ x.toInt) (hv : vs[x.toInt.toNat]? = some v) (hvr : v = .null ∨ ∃ b, v = .ref b)
    (h : GX sc Y mc ms (pc + 1) ls (v :: st) ww k n K) : GX sc Y mc ms pc ls (.int x :: .ref a :: st) ww k n K := by
  intro E hE p e R s m args below meth c H locs lh F hR hS hl hw hsl hst
  have e1 : gV E (.ref a) = .ref (eP E a) := congrArg Value.ref (gA_in ha)
  show W p (eL E) e R s m args below meth c H locs k n _ (F0 m pc lh (.int x :: gV E (.ref a) :: st.map (gV E)))
  rw [e1]
  refine va_aldq F.1.1 F.1.2.1 F.2.2.2.1.1 hR.1 (cX ww a) 3 (f := fun j => vRef E (vs.getD j .null)) (arr_at (t := 3) hc (by decide)) (eT_at 3 (by decide)) (in_at h0 hv) hd ?_
  have e2 : va_rf (vRef E (vs.getD x.toNatClampNeg .null)) = gV E v := by rw [clamp_eq, getD_at hv]; exact rf_gV hvr
  show W p (eL E) e R s m args below meth c H locs k n _ (F0 m (pc + 1) lh (va_rf (vRef E (vs.getD x.toNatClampNeg .null)) :: st.map (gV E)))
  rw [e2]
  exact h E hE p e R s m args below meth c H locs lh F hR hS hl hw hsl (sc_c ((hw _ (List.mem_of_getElem? hc)) _ (List.mem_of_getElem? hv)) (sc_t (sc_t hst)))
theorem set_gx {E : EV} {p : Program} {e : Env} {R : Room} {s : State} {m : MethodId} {args : Array Value} {below : List Frame} {meth : Method} {c : Code} {H1 : Heap} {locs : List Loc} {lh : Array Slot} {a : Nat} {c0 c1 : PC}
    (hE : SE sc E) (h : GX sc Y mc ms pc ls st (ww.set a c1) k n K) (hc : ww[a]? = some c0) (hk0 : c0.1 < 900) (hk1 : c1.1 < 900) (hcc : ScV ww c1.2)
    (F : Fr E Y mc ms p R s m args meth c) (hD : va_D (eA E) (cW E ww)) (hP1 : va_P (eD E) CL ((cW E ww).set (cX ww a) (eP E a, cE E c1)) H1) (hS1 : va_S (eA E) s.heap H1 locs) (hl : lv_has lh (mLo Y) (gL E ls)) (hw : WfW ww) (hsl : ScL ww ls) (hst : ScV ww st) :
    W p (eL E) e R s m args below meth c H1 locs k n (MQ below (QX E ww K) args s mc ms (eA E)) (F0 m pc lh (st.map (gV E))) :=
  W.up (MQ.up (QX.up Ex.rfl' (Gr.set hc hk1))) (h E hE p e R s m args below meth c H1 locs lh F (Rep.setq (S := (ww, false)) (c' := c1) hP1 hD hc hk0 hk1) hS1 hl (hw.set hc hk1 hcc) (hsl.gr (Gr.set hc hk1)) (hst.gr (Gr.set hc hk1)))
theorem upq {E : EV} {vs : List Value} {j0 : Nat} {v : Value} (hv : j0 < vs.length) : va_up (fun j => vRef E (vs.getD j .null)) j0 (vRef E v) = fun j => vRef E ((vs.set j0 v).getD j .null) := by
  funext j
  rw [getD_set hv]
  unfold va_up
  by_cases hj : j = j0
  · rw [if_pos hj, if_pos hj]
  · rw [if_neg hj, if_neg hj]
theorem cE_q {E : EV} {vs : List Value} : cE E (103, vs) = .inl (eC E 3, vs.length, .inr (.inr (.inr (.inr (fun j => vRef E (vs.getD j .null)))))) := cE_arr (t := 3)
theorem x_aastore {a b : Nat} {vs : List Value} {x : Int32} {C : String} (hd : decode (mBy Y) pc = .ok (.aastore, 1)) (ha : a < XB) (hc : ww[a]? = some (103, vs)) (h0 : 0 ≤ x.toInt) (hv : x.toInt.toNat < vs.length) (hk : Kx ww b C) (hca : (C, "java/lang/Object") ∈ castT)
    (h : GX sc Y mc ms (pc + 1) ls st (ww.set a (103, vs.set x.toInt.toNat (.ref b))) k n K) : GX sc Y mc ms pc ls (.ref b :: .int x :: .ref a :: st) ww k n K := by
  intro E hE p e R s m args below meth c H locs lh F hR hS hl hw hsl hst
  have e1 : gV E (.ref a) = .ref (eP E a) := congrArg Value.ref (gA_in ha)
  show W p (eL E) e R s m args below meth c H locs k n _ (F0 m pc lh (.ref (gA E b) :: .int x :: gV E (.ref a) :: st.map (gV E)))
  rw [e1]
  refine vb_astq F.1.1 F.1.2.1 F.2.2.2.1.1 hR.1 hR.2 hS (cX ww a) 3 (f := fun j => vRef E (vs.getD j .null)) (arr_at (t := 3) hc (by decide)) (eT_at 3 (by decide)) (recvX hk F hR hS) (vb_asgC (F.2.2.2.2.2.2.2.1.2.1 _ hca)) (vp_in_iff.mpr ⟨h0, by omega⟩) hd (fun H1 locs1 hP1 hD1 hS1 => ?_)
  refine set_gx hE h hc (Nat.le_of_ble_eq_true rfl) (Nat.le_of_ble_eq_true rfl) (sc_set (hw _ (List.mem_of_getElem? hc)) (sc_h hst)) F hR.2 ?_ hS1 hl hw hsl (sc_t (sc_t (sc_t hst)))
  rw [cE_q, List.length_set, ← upq hv]
  exact hP1
theorem x_aastoreN {a : Nat} {vs : List Value} {x : Int32} (hd : decode (mBy Y) pc = .ok (.aastore, 1)) (ha : a < XB) (hc : ww[a]? = some (103, vs)) (h0 : 0 ≤ x.toInt) (hv : x.toInt.toNat < vs.length)
    (h : GX sc Y mc ms (pc + 1) ls st (ww.set a (103, vs.set x.toInt.toNat .null)) k n K) : GX sc Y mc ms pc ls (.null :: .int x :: .ref a :: st) ww k n K := by
  intro E hE p e R s m args below meth c H locs lh F hR hS hl hw hsl hst
  have e1 : gV E (.ref a) = .ref (eP E a) := congrArg Value.ref (gA_in ha)
  show W p (eL E) e R s m args below meth c H locs k n _ (F0 m pc lh (.null :: .int x :: gV E (.ref a) :: st.map (gV E)))
  rw [e1]
  refine va_astqN F.1.1 F.1.2.1 F.2.2.2.1.1 hR.1 hR.2 hS (cX ww a) 3 (f := fun j => vRef E (vs.getD j .null)) (arr_at (t := 3) hc (by decide)) (eT_at 3 (by decide)) (vp_in_iff.mpr ⟨h0, by omega⟩) hd (fun H1 locs1 hP1 hD1 hS1 => ?_)
  refine set_gx hE h hc (Nat.le_of_ble_eq_true rfl) (Nat.le_of_ble_eq_true rfl) (sc_set (hw _ (List.mem_of_getElem? hc)) trivial) F hR.2 ?_ hS1 hl hw hsl (sc_t (sc_t (sc_t hst)))
  rw [cE_q, List.length_set, ← upq (v := .null) hv]
  exact hP1
/-! null, and references of any kind -/
theorem x_null (hd : decode (mBy Y) pc = .ok (.aconst_null, 1)) (h : GX sc Y mc ms (pc + 1) ls (.null :: st) ww k n K) : GX sc Y mc ms pc ls st ww k n K := fun E hE p e R s m args below meth c H locs lh F hR hS hl hw hsl hst => lv_null F.1.1 F.1.2.1 hd (h E hE p e R s m args below meth c H locs lh F hR hS hl hw hsl (sc_c trivial hst))
theorem x_aloadN {i j : Nat} (hd : decode (mBy Y) pc = .ok (.aload i, 2)) (hl0 : ls[j]? = some (i, .null)) (h : GX sc Y mc ms (pc + 2) ls (.null :: st) ww k n K) : GX sc Y mc ms pc ls st ww k n K := fun E hE p e R s m args below meth c H locs lh F hR hS hl hw hsl hst => lv_aloadN F.1.1 F.1.2.1 hd (loc_at hl hl0) (h E hE p e R s m args below meth c H locs lh F hR hS hl hw hsl (sc_c trivial hst))
theorem x_aloadnN {i : Fin 4} {i0 j : Nat} (hd : decode (mBy Y) pc = .ok (.aload_n i, 1)) (hi : (i : Nat) = i0) (hl0 : ls[j]? = some (i0, .null)) (h : GX sc Y mc ms (pc + 1) ls (.null :: st) ww k n K) : GX sc Y mc ms pc ls st ww k n K := fun E hE p e R s m args below meth c H locs lh F hR hS hl hw hsl hst => lv_aload_nN F.1.1 F.1.2.1 hd hi (loc_at hl hl0) (h E hE p e R s m args below meth c H locs lh F hR hS hl hw hsl (sc_c trivial hst))
theorem x_astoreN {i : Nat} {ls2 : List (Nat × Value)} (hd : decode (mBy Y) pc = .ok (.astore i, 2)) (hn : i < mLo Y) (he : stI i .null ls = ls2) (h : GX sc Y mc ms (pc + 2) ls2 st ww k n K) : GX sc Y mc ms pc ls (.null :: st) ww k n K := fun E hE p e R s m args below meth c H locs lh F hR hS hl hw hsl hst => lv_astoreN F.1.1 F.1.2.1 hd hl hn (gL_stI.trans (congrArg (gL E) he)) (fun lh2 hl2 => h E hE p e R s m args below meth c H locs lh2 F hR hS hl2 hw (ScL.stI he trivial hsl) (sc_t hst))
theorem x_astorenN {i : Fin 4} {i0 : Nat} {ls2 : List (Nat × Value)} (hd : decode (mBy Y) pc = .ok (.astore_n i, 1)) (hi : (i : Nat) = i0) (hn : i0 < mLo Y) (he : stI i0 .null ls = ls2) (h : GX sc Y mc ms (pc + 1) ls2 st ww k n K) : GX sc Y mc ms pc ls (.null :: st) ww k n K := fun E hE p e R s m args below meth c H locs lh F hR hS hl hw hsl hst => lv_astore_nN F.1.1 F.1.2.1 hd hi hl hn (gL_stI.trans (congrArg (gL E) he)) (fun lh2 hl2 => h E hE p e R s m args below meth c H locs lh2 F hR hS hl2 hw (ScL.stI he trivial hsl) (sc_t hst))
/-- a reference, or null, of a local -/
theorem x_aloadV {i j : Nat} {v : Value} (hv : v = .null ∨ ∃ b, v = .ref b) (hd : decode (mBy Y) pc = .ok (.aload i, 2)) (hl0 : ls[j]? = some (i, v)) (h : GX sc Y mc ms (pc + 2) ls (v :: st) ww k n K) : GX sc Y mc ms pc ls st ww k n K := by
  rcases hv with rfl | ⟨b, rfl⟩
  · exact x_aloadN hd hl0 h
  · exact x_aload hd hl0 h
theorem x_aloadnV {i : Fin 4} {i0 j : Nat} {v : Value} (hv : v = .null ∨ ∃ b, v = .ref b) (hd : decode (mBy Y) pc = .ok (.aload_n i, 1)) (hi : (i : Nat) = i0) (hl0 : ls[j]? = some (i0, v)) (h : GX sc Y mc ms (pc + 1) ls (v :: st) ww k n K) : GX sc Y mc ms pc ls st ww k n K := by
  rcases hv with rfl | ⟨b, rfl⟩
  · exact x_aloadnN hd hi hl0 h
  · exact x_aloadn hd hi hl0 h
theorem x_astoreV {i : Nat} {v : Value} {ls2 : List (Nat × Value)} (hv : v = .null ∨ ∃ b, v = .ref b) (hd : decode (mBy Y) pc = .ok (.astore i, 2)) (hn : i < mLo Y) (he : stI i v ls = ls2) (h : GX sc Y mc ms (pc + 2) ls2 st ww k n K) : GX sc Y mc ms pc ls (v :: st) ww k n K := by
  rcases hv with rfl | ⟨b, rfl⟩
  · exact x_astoreN hd hn he h
  · exact x_astore hd hn he h
theorem x_astorenV {i : Fin 4} {i0 : Nat} {v : Value} {ls2 : List (Nat × Value)} (hv : v = .null ∨ ∃ b, v = .ref b) (hd : decode (mBy Y) pc = .ok (.astore_n i, 1)) (hi : (i : Nat) = i0) (hn : i0 < mLo Y) (he : stI i0 v ls = ls2) (h : GX sc Y mc ms (pc + 1) ls2 st ww k n K) : GX sc Y mc ms pc ls (v :: st) ww k n K := by
  rcases hv with rfl | ⟨b, rfl⟩
  · exact x_astorenN hd hi hn he h
  · exact x_astoren hd hi hn he h
theorem x_ifnull {v : Value} {off : Int} {tgt : Nat} (hv : v = .null ∨ ∃ b, v = .ref b) (hd : decode (mBy Y) pc = .ok (.ifnull off, 3)) (ht : (pc : Int) + off = (tgt : Int)) (h1 : v = .null → GX sc Y mc ms tgt ls st ww k n K) (h2 : v ≠ .null → GX sc Y mc ms (pc + 3) ls st ww k n K) : GX sc Y mc ms pc ls (v :: st) ww k n K := by
  rcases hv with rfl | ⟨b, rfl⟩
  · exact fun E hE p e R s m args below meth c H locs lh F hR hS hl hw hsl hst => lv_ifnullN F.1.1 F.1.2.1 hd ht (h1 rfl E hE p e R s m args below meth c H locs lh F hR hS hl hw hsl (sc_t hst))
  · exact fun E hE p e R s m args below meth c H locs lh F hR hS hl hw hsl hst => lv_ifnull F.1.1 F.1.2.1 hd (h2 (fun q => nomatch q) E hE p e R s m args below meth c H locs lh F hR hS hl hw hsl (sc_t hst))
theorem x_ifnonnull {v : Value} {off : Int} {tgt : Nat} (hv : v = .null ∨ ∃ b, v = .ref b) (hd : decode (mBy Y) pc = .ok (.ifnonnull off, 3)) (ht : (pc : Int) + off = (tgt : Int)) (h1 : v ≠ .null → GX sc Y mc ms tgt ls st ww k n K) (h2 : v = .null → GX sc Y mc ms (pc + 3) ls st ww k n K) : GX sc Y mc ms pc ls (v :: st) ww k n K := by
  rcases hv with rfl | ⟨b, rfl⟩
  · exact fun E hE p e R s m args below meth c H locs lh F hR hS hl hw hsl hst => lv_ifnonnullN F.1.1 F.1.2.1 hd (h2 rfl E hE p e R s m args below meth c H locs lh F hR hS hl hw hsl (sc_t hst))
  · exact fun E hE p e R s m args below meth c H locs lh F hR hS hl hw hsl hst => lv_ifnonnull F.1.1 F.1.2.1 hd ht (h1 (fun q => nomatch q) E hE p e R s m args below meth c H locs lh F hR hS hl hw hsl (sc_t hst))
theorem x_dup_x1 {v1 v2 : Value} (hd : decode (mBy Y) pc = .ok (.dup_x1, 1)) (c1 : v1.category = 1) (c2 : v2.category = 1) (h : GX sc Y mc ms (pc + 1) ls (v1 :: v2 :: v1 :: st) ww k n K) : GX sc Y mc ms pc ls (v1 :: v2 :: st) ww k n K := fun E hE p e R s m args below meth c H locs lh F hR hS hl hw hsl hst => lv_dup_x1 F.1.1 F.1.2.1 hd ((gV_cat E v1).trans c1) ((gV_cat E v2).trans c2) (h E hE p e R s m args below meth c H locs lh F hR hS hl hw hsl (sc_c (sc_h hst) (sc_c (sc_h (sc_t hst)) (sc_c (sc_h hst) (sc_t (sc_t hst))))))
/-- two references of made cells, of one constant, of a cell and a constant: equal where the numbers are -/
def Ap (w : List PC) (a b : Nat) : Prop := (a < XB ∧ b < XB ∧ mk_ w a ∧ mk_ w b) ∨ a = b ∨ (a < XB ∧ mk_ w a ∧ b = XB + 300 + 300)
theorem gA_eq {E : EV} {p : Program} {R : Room} {s : State} {m : MethodId} {args : Array Value} {meth : Method} {c : Code} {H : Heap} {a b : Nat} (h : Ap ww a b) (F : Fr E Y mc ms p R s m args meth c) (hR : Rep E (ww, false) 0 H) : gA E a = gA E b ↔ a = b := by
  refine ⟨fun e => ?_, fun e => by rw [e]⟩
  rcases h with ⟨ha, hb, ⟨ca, h1, h2⟩, cb, h3, h4⟩ | h | ⟨ha, ⟨ca, h1, h2⟩, rfl⟩
  · rw [gA_in ha, gA_in hb] at e
    have h5 := cW_at (E := E) h1 h2
    have h6 := cW_at (E := E) h3 h4
    have h7 := hR.2.1 _ _ _ _ h5 h6 e
    by_cases hab : a = b
    · exact hab
    · exfalso
      rcases Nat.lt_or_ge a b with hl | hl
      · exact absurd h7 (Nat.ne_of_lt (cX_lt h1 h2 hl))
      · exact absurd h7.symm (Nat.ne_of_lt (cX_lt h3 h4 (by omega)))
  · exact h
  · exfalso
    rw [gA_in ha, gA_J E (by omega)] at e
    have h5 := hR.2.2 _ _ (cW_at (E := E) h1 h2)
    obtain ⟨cell, -, -, -, -, -, -, h9⟩ := F.J.2.1.2
    exact h9 (by rw [← e]; exact h5)
end XRef
