/-! CONSTRUCTORS IN MOVING WORLDS: a cell of kind 999 is not made yet -/
theorem cW_fill {E : EV} {w : List PC} {a : Nat} {c0 c1 : PC} (h : w[a]? = some c0) (h0 : 900 ≤ c0.1) (h1 : c1.1 < 900) : (cW E (w.set a c1)).Perm (cW E w ++ [(eP E a, cE E c1)]) := by
  have hz := zi_at h
  obtain ⟨hl, hg⟩ := List.getElem?_eq_some_iff.mp hz
  have e1 : w.zipIdx = w.zipIdx.take a ++ (c0, a) :: w.zipIdx.drop (a + 1) := by
    rw [← hg, ← List.drop_eq_getElem_cons hl, List.take_append_drop]
  have e2 : (w.set a c1).zipIdx = w.zipIdx.take a ++ (c1, a) :: w.zipIdx.drop (a + 1) := by
    rw [← zi_set, List.set_eq_take_append_cons_drop, if_pos hl]
  have k0 : ¬ kp (c0, a) = true := fun q => absurd (of_decide_eq_true q) (Nat.not_lt.mpr h0)
  unfold cW
  rw [e2, List.filter_append, List.filter_cons_of_pos (kp_of h1), List.map_append, List.map_cons]
  have e3 : (w.zipIdx.filter kp).map (fun q => (eP E q.2, cE E q.1)) = ((w.zipIdx.take a).filter kp).map (fun q => (eP E q.2, cE E q.1)) ++ ((w.zipIdx.drop (a + 1)).filter kp).map (fun q => (eP E q.2, cE E q.1)) := by
    conv => lhs; rw [e1]
    rw [List.filter_append, List.filter_cons_of_neg k0, List.map_append]
  rw [e3]
  refine List.perm_middle.trans ?_
  exact (List.perm_append_comm (l₁ := [(eP E a, cE E c1)]))
theorem vaP_pm {D : va_G} {cl : List vw_C} {w w' : va_W} {H : Heap} (h : va_P D cl w H) (hp : w'.Perm w) : va_P D cl w' H := fun k q hk => by
  obtain ⟨j, hj⟩ := List.getElem?_of_mem (hp.mem_iff.mp (List.mem_of_getElem? hk))
  exact h j q hj
/-- no two of the list have one address -/
theorem nd_of {w : va_W} (h : ∀ (i j : Nat) (p q : Nat × va_E), w[i]? = some p → w[j]? = some q → p.1 = q.1 → i = j) : (w.map (·.1)).Nodup := by
  unfold List.Nodup
  rw [List.pairwise_iff_getElem]
  intro i j hi hj hij e
  rw [List.getElem_map, List.getElem_map] at e
  exact absurd (h i j _ _ (List.getElem?_eq_getElem _) (List.getElem?_eq_getElem _) e) (Nat.ne_of_lt hij)
theorem nd_to {w : va_W} (h : (w.map (·.1)).Nodup) (i j : Nat) (p q : Nat × va_E) (h1 : w[i]? = some p) (h2 : w[j]? = some q) (e : p.1 = q.1) : i = j := by
  unfold List.Nodup at h
  rw [List.pairwise_iff_getElem] at h
  obtain ⟨hi, ei⟩ := List.getElem?_eq_some_iff.mp h1
  obtain ⟨hj, ej⟩ := List.getElem?_eq_some_iff.mp h2
  rcases Nat.lt_trichotomy i j with c | c | c
  · exact absurd (by rw [List.getElem_map, List.getElem_map, ei, ej]; exact e) (h i j (by rw [List.length_map]; exact hi) (by rw [List.length_map]; exact hj) c)
  · exact c
  · exact absurd (by rw [List.getElem_map, List.getElem_map, ei, ej]; exact e.symm) (h j i (by rw [List.length_map]; exact hj) (by rw [List.length_map]; exact hi) c)
theorem vaD_pm {A : Addr → Prop} {w w' : va_W} (h : va_D A w) (hp : w'.Perm w) : va_D A w' := by
  refine ⟨nd_to ((hp.map (·.1)).nodup_iff.mpr (nd_of h.1)), fun k q hk => ?_⟩
  obtain ⟨j, hj⟩ := List.getElem?_of_mem (hp.mem_iff.mp (List.mem_of_getElem? hk))
  exact h.2 j q hj
section Holes
variable {sc : SC} {Y : MI} {mc ms pc k n : Nat} {ls : List (Nat × Value)} {st : List Value} {ww : List PC} {K : Option Value → List PC → Prop}
theorem Gr.fill {a : Nat} {c0 c1 : PC} (hc : ww[a]? = some c0) (hk : c1.1 < 900) : Gr ww (ww.set a c1) := Gr.set hc hk
theorem push_gxH {E : EV} {p : Program} {e : Env} {R : Room} {s : State} {m : MethodId} {args : Array Value} {below : List Frame} {meth : Method} {c : Code} {H1 : Heap} {locs : List Loc} {lh : Array Slot} {c0 c1 : PC} {a q : Nat} {x : va_E}
    (hE : SE sc E) (h : GX sc Y mc ms pc ls (.ref a :: st) (ww.set a c1) k n K) (hc : ww[a]? = some c0) (h0 : 900 ≤ c0.1) (hk9 : c1.1 < 900) (hcc : ScV ww c1.2) (hx : a < XB) (hxe : x = cE E c1)
    (F : Fr E Y mc ms p R s m args meth c) (hP1 : va_P (eD E) CL (cW E ww ++ [(q, x)]) H1) (hD1 : va_D (eA E) (cW E ww ++ [(q, x)])) (hS1 : va_S (eA E) s.heap H1 locs) (hl : lv_has lh (mLo Y) (gL E ls)) (hw : WfW ww) (hsl : ScL ww ls) (hst : ScV ww st) :
    W p (eL E) e R s m args below meth c H1 locs k n (MQ below (QX E ww K) args s mc ms (eA E)) (F0 m pc lh (.ref q :: st.map (gV E))) := by
  subst hxe
  have hX : Ex ww E (wAd E (fun x => if x = a then q else eAd E x)) := ⟨_, rfl, fun y hy => if_neg (fun z => by
    subst z
    obtain ⟨d, hd, hk⟩ := hy
    cases hc.symm.trans hd
    omega)⟩
  have hg : Gr ww (ww.set a c1) := Gr.set hc hk9
  have e0 : eP (wAd E (fun x => if x = a then q else eAd E x)) a = q := if_pos rfl
  have e1 : (cW (wAd E (fun x => if x = a then q else eAd E x)) (ww.set a c1)).Perm (cW E ww ++ [(q, cE E c1)]) := by
    have := cW_fill (E := wAd E (fun x => if x = a then q else eAd E x)) hc h0 hk9
    rwa [cW_ex hX hw, cE_ex hX hcc, e0] at this
  have g := h (wAd E (fun x => if x = a then q else eAd E x)) hE p e R s m args below meth c H1 locs lh F ⟨vaP_pm hP1 e1, vaD_pm hD1 e1⟩ hS1 (by rw [gL_ex hX hsl]; exact hl) (hw.set hc hk9 hcc) (hsl.gr hg) (sc_c (.inr ⟨c1, by rw [List.getElem?_set, if_pos rfl, if_pos (List.getElem?_eq_some_iff.mp hc).1], hk9⟩) (hst.gr hg))
  have e2 : (Value.ref a :: st).map (gV (wAd E (fun x => if x = a then q else eAd E x))) = .ref q :: st.map (gV E) := by
    rw [List.map_cons, mp_ex hX hst]
    congr 1
    exact congrArg Value.ref ((gA_in hx).trans e0)
  rw [e2] at g
  exact W.up (MQ.up (QX.up hX hg)) g
theorem x_newH {i ci a : Nat} {c0 : PC} (hd : decode (mBy Y) pc = .ok (.new i, 3)) (hci : ci < 18) (h1 : Cond.classLink (mNm Y).cls i (RC ci) ∈ gtbl) (h2 : Cond.instantiable (RC ci) (NC ci) ∈ gtbl) (h3 : Cond.initialized (RC ci) ∈ gtbl) (hk : k + 1 ≤ mc) (hn : n + NC ci ≤ ms) (hx : a < XB) (hc : ww[a]? = some c0) (h0 : 900 ≤ c0.1)
    (h : GX sc Y mc ms (pc + 3) ls (.ref a :: st) (ww.set a (ci, dfl ci)) (k + 1) (n + NC ci) K) : GX sc Y mc ms pc ls st ww k n K := by
  intro E hE p e R s m args below meth c H locs lh F hR hS hl hw hsl hst
  have hT := F.1.2.2.2.2
  refine va_new (ci := ci) (fs := (dfl ci).map (gV E)) (C := RC ci) (T := TC ci) (N := NC ci) F.1.1 F.1.2.1 hT (uwC ci hci) (TYC ci) (tyC ci hci) F.1.2.2.2.1 (hT _ h1) (hT _ h2) (hT _ h3) F.2.2.2.1.1 hR.1 hR.2 hS (eA_new F.2.2.2.1.2.1) (CL_at ci hci) ?_ (Nat.le_trans hk F.2.2.1.2.2.1) (Nat.le_trans hn F.2.2.1.2.2.2) hd (fun q H1 hP1 hD1 hS1 => ?_)
  · intro j hj
    have e1 : (dfl ci)[j]? = some (defaultValue (TYC ci j)) := by unfold dfl; rw [List.getElem?_map, List.getElem?_range hj]; rfl
    show _ = ((dfl ci).map (gV E)).getD j .null
    rw [List.getD_eq_getElem?_getD, List.getElem?_map, e1]
    exact (dV_g E _).symm
  · exact push_gxH hE h hc h0 (Nat.lt_trans hci (Nat.le_of_ble_eq_true rfl)) sc_dfl hx (cE_obj (by omega)).symm F hP1 hD1 hS1 hl hw hsl hst
theorem x_newarrH {N a : Nat} {c0 : PC} {x : Int32} (hd : decode (mBy Y) pc = .ok (.newarray .int, 2)) (h1 : Cond.arrayClass (newarray.typeOf .int) ∈ gtbl) (h0 : 0 ≤ x.toInt) (hN : x.toInt.toNat = N) (hb : N ≤ 16384) (hk : k + 1 ≤ mc) (hn : n + N ≤ ms) (hx : a < XB) (hc : ww[a]? = some c0) (h9 : 900 ≤ c0.1)
    (h : GX sc Y mc ms (pc + 2) ls (.ref a :: st) (ww.set a (100, List.replicate N (.int 0))) (k + 1) (n + N) K) : GX sc Y mc ms pc ls (.int x :: st) ww k n K := by
  intro E hE p e R s m args below meth c H locs lh F hR hS hl hw hsl hst
  refine va_newa (atype := .int) (a0 := (N, .inl (fun j => vInt ((List.replicate N (.int 0)).getD j .null)))) F.1.1 F.1.2.1 (F.1.2.2.2.2 _ h1) rfl F.2.2.2.1.1 hR.1 hR.2 hS (eA_new F.2.2.2.1.2.1) (fun cA => ?_) (fun q => by have := Int32.lt_iff_toInt_lt.mp q; simp at this; omega) hN (cb8 (ty := .int) hb (by decide)) (Nat.le_trans hk F.2.2.1.2.2.1) (Nat.le_trans hn F.2.2.1.2.2.2) hd (fun q cA H1 hK1 hP1 hD1 hS1 => ?_)
  · show arrV cA N (fun j => .int (vInt ((List.replicate N (.int 0)).getD j .null))) = arrV cA N (fun _ => defaultValue (newarray.typeOf .int))
    refine arrV_congr (fun j hj => ?_)
    rw [rep_getD, if_pos hj]
    rfl
  · have hc2 : cA = eC E 0 := tys_eq (t := 0) (by decide) hK1
    subst hc2
    refine push_gxH hE h hc h9 (Nat.le_of_ble_eq_true rfl) (sc_rep trivial) hx ?_ F hP1 hD1 hS1 hl hw hsl (sc_t hst)
    rw [show (100, List.replicate N (Value.int 0)) = ((100 + 0, List.replicate N (Value.int 0)) : PC) from rfl, cE_arr, List.length_replicate]
    rfl
theorem x_anewH {N i a : Nat} {c0 : PC} {x : Int32} (hd : decode (mBy Y) pc = .ok (.anewarray i, 3)) (h1 : Cond.classLink (mNm Y).cls i "FlatPlan$State" ∈ gtbl) (h0 : 0 ≤ x.toInt) (hN : x.toInt.toNat = N) (hb : N ≤ 16384) (hk : k + 1 ≤ mc) (hn : n + N ≤ ms) (hx : a < XB) (hc : ww[a]? = some c0) (h9 : 900 ≤ c0.1)
    (h : GX sc Y mc ms (pc + 3) ls (.ref a :: st) (ww.set a (105, List.replicate N .null)) (k + 1) (n + N) K) : GX sc Y mc ms pc ls (.int x :: st) ww k n K := by
  intro E hE p e R s m args below meth c H locs lh F hR hS hl hw hsl hst
  refine va_newq F.1.1 F.1.2.1 F.1.2.2.2.1 (F.1.2.2.2.2 _ h1) F.2.2.2.2.1 F.2.2.2.1.1 hR.1 hR.2 hS (eA_new F.2.2.2.1.2.1) (fun q => by have := Int32.lt_iff_toInt_lt.mp q; simp at this; omega) hN (by omega) (Nat.le_trans hk F.2.2.1.2.2.1) (Nat.le_trans hn F.2.2.1.2.2.2) hd (fun q cA H1 hK1 hP1 hD1 hS1 => ?_)
  have hc2 : cA = eC E 5 := tys_eq (t := 5) (by decide) hK1
  subst hc2
  refine push_gxH hE h hc h9 (Nat.le_of_ble_eq_true rfl) (sc_rep trivial) hx ?_ F hP1 hD1 hS1 hl hw hsl (sc_t hst)
  rw [show (105, List.replicate N Value.null) = ((100 + 5, List.replicate N Value.null) : PC) from rfl, cE_arr, List.length_replicate]
  show Sum.inl (eC E 5, N, _) = Sum.inl (eC E 5, N, Sum.inr (Sum.inr (Sum.inr (Sum.inr (fun j => vRef E ((List.replicate N .null).getD j .null))))))
  congr 7
  funext j
  rw [rep_getD]
  split <;> rfl
theorem x_aastS {a b : Nat} {vs fs : List Value} {x : Int32} (hd : decode (mBy Y) pc = .ok (.aastore, 1)) (ha : a < XB) (hb : b < XB) (hc : ww[a]? = some (105, vs)) (hcb : ww[b]? = some (8, fs)) (h0 : 0 ≤ x.toInt) (hv : x.toInt.toNat < vs.length)
    (h : GX sc Y mc ms (pc + 1) ls st (ww.set a (105, vs.set x.toInt.toNat (.ref b))) k n K) : GX sc Y mc ms pc ls (.ref b :: .int x :: .ref a :: st) ww k n K := by
  intro E hE p e R s m args below meth c H locs lh F hR hS hl hw hsl hst
  have e1 : gV E (.ref a) = .ref (eP E a) := congrArg Value.ref (gA_in ha)
  have e4 : gV E (.ref b) = .ref (eP E b) := congrArg Value.ref (gA_in hb)
  show W p (eL E) e R s m args below meth c H locs k n _ (F0 m pc lh (gV E (.ref b) :: .int x :: gV E (.ref a) :: st.map (gV E)))
  rw [e1, e4]
  have hb2 := cW_at (E := E) hcb (Nat.le_of_ble_eq_true rfl)
  rw [cE_obj (by omega)] at hb2
  refine va_astq F.1.1 F.1.2.1 F.2.2.2.1.1 hR.1 hR.2 hS (cX ww a) 5 (cX ww b) 8 (arr_at (t := 5) hc (by decide)) (r := (RC 8, TC 8, NC 8)) (eT_at 5 (by decide)) hb2 (CL_at 8 (by decide)) (vp_in_iff.mpr ⟨h0, by omega⟩) hd (fun H1 locs1 hP1 hD1 hS1 => ?_)
  refine set_gx hE h hc (Nat.le_of_ble_eq_true rfl) (Nat.le_of_ble_eq_true rfl) (sc_set (hw _ (List.mem_of_getElem? hc)) (sc_h hst)) F hR.2 ?_ hS1 hl hw hsl (sc_t (sc_t (sc_t hst)))
  rw [show ((105, vs.set x.toInt.toNat (.ref b)) : PC) = (100 + 5, vs.set x.toInt.toNat (.ref b)) from rfl, cE_arr, List.length_set]
  have e2 : va_up (fun j => vRef E (vs.getD j .null)) x.toNatClampNeg (some (eP E b)) = fun j => vRef E ((vs.set x.toInt.toNat (.ref b)).getD j .null) := by
    rw [← upq (v := .ref b) hv, clamp_eq, ← gA_in hb]; rfl
  show va_P (eD E) CL ((cW E ww).set (cX ww a) (eP E a, .inl (eC E 5, vs.length, .inr (.inr (.inr (.inr (fun j => vRef E ((vs.set x.toInt.toNat (.ref b)).getD j .null)))))))) H1
  rw [← e2]
  exact hP1
end Holes
