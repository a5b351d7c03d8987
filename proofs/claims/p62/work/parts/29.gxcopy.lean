/-! MOVING WORLDS: the script, rows copied, class objects -/
/-- n places of f from sp on laid into g from dp on -/
def cpL (f g : List Value) (sp dp n : Nat) : List Value := (List.range g.length).map (fun k => if dp ≤ k ∧ k < dp + n then f.getD (sp + (k - dp)) .null else g.getD k .null)
theorem cpL_len {f g : List Value} {sp dp n : Nat} : (cpL f g sp dp n).length = g.length := by unfold cpL; rw [List.length_map, List.length_range]
theorem cpL_at {f g : List Value} {sp dp n j : Nat} (h5 : dp + n ≤ g.length) : (cpL f g sp dp n).getD j .null = if dp ≤ j ∧ j < dp + n then f.getD (sp + (j - dp)) .null else g.getD j .null := by
  by_cases hj : j < g.length
  · unfold cpL
    rw [List.getD_eq_getElem?_getD, List.getElem?_map, List.getElem?_range hj]
    rfl
  · rw [if_neg (by omega), List.getD_eq_getElem?_getD, List.getD_eq_getElem?_getD, List.getElem?_eq_none (by rw [cpL_len]; omega), List.getElem?_eq_none (by omega)]
theorem sc_cpL {w : List PC} {f g : List Value} {sp dp n : Nat} (hf : ScV w f) (hg : ScV w g) : ScV w (cpL f g sp dp n) := fun v hv => by
  obtain ⟨k, -, rfl⟩ := List.mem_map.mp hv
  split
  · exact sc_get hf
  · exact sc_get hg
/-- an element of a row of objects: null, or an object of a class that is cast to Object -/
def OkO (w : List PC) (v : Value) : Prop := v = .null ∨ ∃ b C, v = .ref b ∧ Kx w b C ∧ (C, "java/lang/Object") ∈ castT
section XCopy
variable {sc : SC} {Y : MI} {mc ms pc k n i : Nat} {ls : List (Nat × Value)} {st : List Value} {ww : List PC} {K : Option Value → List PC → Prop}
theorem anyX {E : EV} {p : Program} {R : Room} {s : State} {m : MethodId} {args : Array Value} {meth : Method} {c : Code} {H : Heap} {locs : List Loc} {v : Value} {y : Nat} (h : OkO ww v) (hy : vRef E v = some y) (F : Fr E Y mc ms p R s m args meth c) (hR : Rep E (ww, false) 0 H) (hS : va_S (eA E) s.heap H locs) : va_Any "java/lang/Object" s H y := by
  rcases h with rfl | ⟨b, C, rfl, hk, hca⟩
  · cases hy
  · cases hy
    obtain ⟨cell, h1, h2, h3⟩ := recvX hk F hR hS
    obtain ⟨kC, hkC, -⟩ := Vm.findClass_spec h3
    exact ⟨cell, h1, h2, ⟨kC, hkC⟩, fun comp h => vb_asgC (F.2.2.2.2.2.2.2.1.2.1 _ hca) comp _ h h3⟩
theorem x_slen (hd : decode (mBy Y) pc = .ok (.arraylength, 1)) (h : GX sc Y mc ms (pc + 1) ls (.int (nI sc.2) :: st) ww k n K) : GX sc Y mc ms pc ls (.ref (XB + 200) :: st) ww k n K := by
  intro E hE p e R s m args below meth c H locs lh F hR hS hl hw hsl hst
  rw [List.map_cons, gV_scr]
  have hX := F.2.2.2
  refine va_slen F.1.1 F.1.2.1 hX.2.2.2.2.2.2.1 (Nat.lt_of_lt_of_le hX.1.2.2.1 hX.1.2.1) (fun q => Nat.lt_irrefl _ (Nat.lt_of_lt_of_le hX.1.2.2.1 q)) hS hd ?_
  rw [hE.2]
  exact h E hE p e R s m args below meth c H locs lh F hR hS hl hw hsl (sc_c trivial (sc_t hst))
theorem x_sld {x : Int32} (hd : decode (mBy Y) pc = .ok (.iaload, 1)) (h0 : 0 ≤ x.toInt) (h1 : x.toInt.toNat < sc.2) (h : GX sc Y mc ms (pc + 1) ls (.int (sc.1 x.toInt.toNat) :: st) ww k n K) : GX sc Y mc ms pc ls (.int x :: .ref (XB + 200) :: st) ww k n K := by
  intro E hE p e R s m args below meth c H locs lh F hR hS hl hw hsl hst
  rw [List.map_cons, List.map_cons, gV_scr]
  have hX := F.2.2.2
  refine va_sld F.1.1 F.1.2.1 hX.2.2.2.2.2.2.1 (Nat.lt_of_lt_of_le hX.1.2.2.1 hX.1.2.1) (fun q => Nat.lt_irrefl _ (Nat.lt_of_lt_of_le hX.1.2.2.1 q)) hS (vp_in_iff.mpr ⟨h0, by rw [hE.2]; omega⟩) hd ?_
  rw [hE.1]
  exact h E hE p e R s m args below meth c H locs lh F hR hS hl hw hsl (sc_c trivial (sc_t (sc_t hst)))
theorem x_copyb {a b : Nat} {va vb : List Value} {x y z : Int32} (hd : decode (mBy Y) pc = .ok (.invokestatic i, 3)) (hw0 : Cond.methodLink (mNm Y).cls i arraycopyName ∈ gtbl) (hF : 1 ≤ mFr Y) (hr8 : (st.map fun v => v.category).sum + 18 ≤ mWd Y)
    (ha : a < XB) (hb : b < XB) (hca : ww[a]? = some (101, va)) (hcb : ww[b]? = some (101, vb)) (h1 : 0 ≤ x.toInt) (h2 : 0 ≤ y.toInt) (h3 : 0 ≤ z.toInt) (h4 : x.toInt.toNat + z.toInt.toNat ≤ va.length) (h5 : y.toInt.toNat + z.toInt.toNat ≤ vb.length)
    (hfit : ∀ j, j < z.toInt.toNat → ∃ q : Int32, va.getD (x.toInt.toNat + j) .null = .int q ∧ -128 ≤ q.toInt ∧ q.toInt ≤ 127)
    (h : GX sc Y mc ms (pc + 3) ls st (ww.set b (101, cpL va vb x.toInt.toNat y.toInt.toNat z.toInt.toNat)) k n K) : GX sc Y mc ms pc ls (.int z :: .int y :: .ref b :: .int x :: .ref a :: st) ww k n K := by
  intro E hE p e R s m args below meth c H locs lh F hR hS hl hw hsl hst
  have hts := F.1.2.2.2.2
  have e1 : gV E (.ref a) = .ref (eP E a) := congrArg Value.ref (gA_in ha)
  have e2 : gV E (.ref b) = .ref (eP E b) := congrArg Value.ref (gA_in hb)
  show W p (eL E) e R s m args below meth c H locs k n _ (F0 m pc lh (.int z :: .int y :: gV E (.ref b) :: .int x :: gV E (.ref a) :: st.map (gV E)))
  rw [e1, e2]
  refine va_copyi F.1.1 F.1.2.1 (hl.1.trans F.1.2.2.1.symm).symm F.1.2.2.2.1 (hts _ hw0) (hts _ q_acN) (hts _ q_acS) (hts _ q_acI) F.2.2.2.1.1 hR.1 hR.2 hS (cX ww a) (cX ww b) 1 1 (f := fun j => vInt (va.getD j .null)) (g := fun j => vInt (vb.getD j .null)) (arr_at (t := 1) hca (by decide)) (arr_at (t := 1) hcb (by decide)) (eT_at 1 (by decide)) (eT_at 1 (by decide)) rfl (vp0 h1) (vp0 h2) (vp0 h3) h4 h5 (fun j hj => ?_) (Nat.le_trans hF F.2.2.1.1) ?_ hd (fun H1 locs1 hP1 hD1 hS1 => ?_)
  · obtain ⟨q, q1, q2, q3⟩ := hfit j hj
    rw [clamp_eq, q1]
    show (decide (-128 ≤ q) && decide (q ≤ 127)) = true
    rw [Bool.and_eq_true]
    exact ⟨decide_eq_true (Int32.le_iff_toInt_le.mpr (by simpa using q2)), decide_eq_true (Int32.le_iff_toInt_le.mpr (by simpa using q3))⟩
  · rw [gV_cats]
    have := F.2.2.1.2.1
    show _ + 18 ≤ R.locals
    omega
  · refine set_gx hE h hcb (Nat.le_of_ble_eq_true rfl) (Nat.le_of_ble_eq_true rfl) (sc_cpL (hw _ (List.mem_of_getElem? hca)) (hw _ (List.mem_of_getElem? hcb))) F hR.2 ?_ hS1 hl hw hsl (sc_t (sc_t (sc_t (sc_t (sc_t hst)))))
    rw [show (101, cpL va vb x.toInt.toNat y.toInt.toNat z.toInt.toNat) = ((100 + 1, cpL va vb x.toInt.toNat y.toInt.toNat z.toInt.toNat) : PC) from rfl, cE_arr, cpL_len]
    have e3 : va_cpy (fun j => vInt (va.getD j .null)) (fun j => vInt (vb.getD j .null)) x.toInt.toNat y.toInt.toNat z.toInt.toNat = fun j => vInt ((cpL va vb x.toInt.toNat y.toInt.toNat z.toInt.toNat).getD j .null) := by
      funext j
      rw [cpL_at h5]
      unfold va_cpy
      split <;> rfl
    show va_P (eD E) CL ((cW E ww).set (cX ww b) (eP E b, .inl (eC E 1, vb.length, .inl (fun j => vInt ((cpL va vb x.toInt.toNat y.toInt.toNat z.toInt.toNat).getD j .null))))) H1
    rw [← e3]
    exact hP1
theorem x_copyt {j0 b : Nat} {vb : List Value} {x y z : Int32} (hd : decode (mBy Y) pc = .ok (.invokestatic i, 3)) (hw0 : Cond.methodLink (mNm Y).cls i arraycopyName ∈ gtbl) (hF : 1 ≤ mFr Y) (hr8 : (st.map fun v => v.category).sum + 18 ≤ mWd Y)
    (hj : j0 < nLit) (hb : b < XB) (hcb : ww[b]? = some (101, vb)) (h1 : 0 ≤ x.toInt) (h2 : 0 ≤ y.toInt) (h3 : 0 ≤ z.toInt) (h4 : x.toInt.toNat + z.toInt.toNat ≤ lenS.getD j0 0) (h5 : y.toInt.toNat + z.toInt.toNat ≤ vb.length)
    (hfit : ∀ j, j < z.toInt.toNat → -128 ≤ ((bytS.getD j0 []).getD (x.toInt.toNat + j) 0).toInt ∧ ((bytS.getD j0 []).getD (x.toInt.toNat + j) 0).toInt ≤ 127) (hlb : (bytS.getD j0 []).length = lenS.getD j0 0)
    (h : GX sc Y mc ms (pc + 3) ls st (ww.set b (101, cpL ((bytS.getD j0 []).map Value.int) vb x.toInt.toNat y.toInt.toNat z.toInt.toNat)) k n K) : GX sc Y mc ms pc ls (.int z :: .int y :: .ref b :: .int x :: .ref (XB + 100 + j0) :: st) ww k n K := by
  intro E hE p e R s m args below meth c H locs lh F hR hS hl hw hsl hst
  have hts := F.1.2.2.2.2
  have e2 : gV E (.ref b) = .ref (eP E b) := congrArg Value.ref (gA_in hb)
  show W p (eL E) e R s m args below meth c H locs k n _ (F0 m pc lh (.int z :: .int y :: gV E (.ref b) :: .int x :: gV E (.ref (XB + 100 + j0)) :: st.map (gV E)))
  rw [gV_V E hj, e2]
  refine vk_copyt F.1.1 F.1.2.1 (hl.1.trans F.1.2.2.1.symm).symm F.1.2.2.2.1 (hts _ hw0) (hts _ q_acN) (hts _ q_acS) (hts _ q_acI) F.2.2.2.1.1 hR.1 hR.2 hS (F.2.2.2.2.2.2.2.2.1.1.1 j0 hj).2.2.2 (cX ww b) 1 (g := fun j => vInt (vb.getD j .null)) (arr_at (t := 1) hcb (by decide)) (eT_at 1 (by decide)) (vp0 h1) (vp0 h2) (vp0 h3) h4 h5 (fun j hj => ?_) (Nat.le_trans hF F.2.2.1.1) ?_ hd (fun H1 locs1 hP1 hD1 hS1 => ?_)
  · obtain ⟨q2, q3⟩ := hfit j hj
    show (decide (-128 ≤ (bytS.getD j0 []).getD (x.toInt.toNat + j) 0) && decide ((bytS.getD j0 []).getD (x.toInt.toNat + j) 0 ≤ 127)) = true
    rw [Bool.and_eq_true]
    exact ⟨decide_eq_true (Int32.le_iff_toInt_le.mpr (by simpa using q2)), decide_eq_true (Int32.le_iff_toInt_le.mpr (by simpa using q3))⟩
  · rw [gV_cats]
    have := F.2.2.1.2.1
    show _ + 18 ≤ R.locals
    omega
  · refine set_gx hE h hcb (Nat.le_of_ble_eq_true rfl) (Nat.le_of_ble_eq_true rfl) (sc_cpL (fun v hv => by obtain ⟨q, -, rfl⟩ := List.mem_map.mp hv; trivial) (hw _ (List.mem_of_getElem? hcb))) F hR.2 ?_ hS1 hl hw hsl (sc_t (sc_t (sc_t (sc_t (sc_t hst)))))
    rw [show (101, cpL ((bytS.getD j0 []).map Value.int) vb x.toInt.toNat y.toInt.toNat z.toInt.toNat) = ((100 + 1, cpL ((bytS.getD j0 []).map Value.int) vb x.toInt.toNat y.toInt.toNat z.toInt.toNat) : PC) from rfl, cE_arr, cpL_len]
    have e3 : va_cpy (fun j => (bytS.getD j0 []).getD j 0) (fun j => vInt (vb.getD j .null)) x.toInt.toNat y.toInt.toNat z.toInt.toNat = fun j => vInt ((cpL ((bytS.getD j0 []).map Value.int) vb x.toInt.toNat y.toInt.toNat z.toInt.toNat).getD j .null) := by
      funext j
      rw [cpL_at h5]
      unfold va_cpy
      split
      · rename_i hq
        have hlt : x.toInt.toNat + (j - y.toInt.toNat) < (bytS.getD j0 []).length := by rw [hlb]; omega
        show (bytS.getD j0 []).getD (x.toInt.toNat + (j - y.toInt.toNat)) 0 = vInt (((bytS.getD j0 []).map Value.int).getD (x.toInt.toNat + (j - y.toInt.toNat)) .null)
        generalize bytS.getD j0 [] = B at hlt ⊢
        rw [List.getD_eq_getElem?_getD, List.getD_eq_getElem?_getD, List.getElem?_map, List.getElem?_eq_getElem hlt]
        rfl
      · rfl
    show va_P (eD E) CL ((cW E ww).set (cX ww b) (eP E b, .inl (eC E 1, vb.length, .inl (fun j => vInt ((cpL ((bytS.getD j0 []).map Value.int) vb x.toInt.toNat y.toInt.toNat z.toInt.toNat).getD j .null))))) H1
    rw [← e3]
    exact hP1
theorem x_copyq {a b : Nat} {va vb : List Value} {x y z : Int32} (hd : decode (mBy Y) pc = .ok (.invokestatic i, 3)) (hw0 : Cond.methodLink (mNm Y).cls i arraycopyName ∈ gtbl) (hF : 1 ≤ mFr Y) (hr8 : (st.map fun v => v.category).sum + 18 ≤ mWd Y)
    (ha : a < XB) (hb : b < XB) (hca : ww[a]? = some (103, va)) (hcb : ww[b]? = some (103, vb)) (h1 : 0 ≤ x.toInt) (h2 : 0 ≤ y.toInt) (h3 : 0 ≤ z.toInt) (h4 : x.toInt.toNat + z.toInt.toNat ≤ va.length) (h5 : y.toInt.toNat + z.toInt.toNat ≤ vb.length)
    (hok : ∀ j, j < z.toInt.toNat → OkO ww (va.getD (x.toInt.toNat + j) .null))
    (h : GX sc Y mc ms (pc + 3) ls st (ww.set b (103, cpL va vb x.toInt.toNat y.toInt.toNat z.toInt.toNat)) k n K) : GX sc Y mc ms pc ls (.int z :: .int y :: .ref b :: .int x :: .ref a :: st) ww k n K := by
  intro E hE p e R s m args below meth c H locs lh F hR hS hl hw hsl hst
  have hts := F.1.2.2.2.2
  have e1 : gV E (.ref a) = .ref (eP E a) := congrArg Value.ref (gA_in ha)
  have e2 : gV E (.ref b) = .ref (eP E b) := congrArg Value.ref (gA_in hb)
  show W p (eL E) e R s m args below meth c H locs k n _ (F0 m pc lh (.int z :: .int y :: gV E (.ref b) :: .int x :: gV E (.ref a) :: st.map (gV E)))
  rw [e1, e2]
  refine va_copyM F.1.1 F.1.2.1 (hl.1.trans F.1.2.2.1.symm).symm F.1.2.2.2.1 (hts _ hw0) (hts _ q_acN) (hts _ q_acS) (hts _ q_acI) F.2.2.2.1.1 hR.1 hR.2 hS (cX ww a) (cX ww b) 3 3 (f := fun j => vRef E (va.getD j .null)) (g := fun j => vRef E (vb.getD j .null)) (arr_at (t := 3) hca (by decide)) (arr_at (t := 3) hcb (by decide)) (eT_at 3 (by decide)) (eT_at 3 (by decide)) (vp0 h1) (vp0 h2) (vp0 h3) h4 h5 (fun j hj q hq => anyX (hok j hj) hq F hR hS) (Nat.le_trans hF F.2.2.1.1) ?_ hd (fun H1 locs1 hP1 hD1 hS1 => ?_)
  · rw [gV_cats]
    have := F.2.2.1.2.1
    show _ + 18 ≤ R.locals
    omega
  · refine set_gx hE h hcb (Nat.le_of_ble_eq_true rfl) (Nat.le_of_ble_eq_true rfl) (sc_cpL (hw _ (List.mem_of_getElem? hca)) (hw _ (List.mem_of_getElem? hcb))) F hR.2 ?_ hS1 hl hw hsl (sc_t (sc_t (sc_t (sc_t (sc_t hst)))))
    rw [cE_q, cpL_len]
    have e3 : va_cpy (fun j => vRef E (va.getD j .null)) (fun j => vRef E (vb.getD j .null)) x.toInt.toNat y.toInt.toNat z.toInt.toNat = fun j => vRef E ((cpL va vb x.toInt.toNat y.toInt.toNat z.toInt.toNat).getD j .null) := by
      funext j
      rw [cpL_at h5]
      unfold va_cpy
      split <;> rfl
    rw [← e3]
    exact hP1
/-- the class of a made row of objects -/
theorem x_getC {a : Nat} {vs : List Value} (hd : decode (mBy Y) pc = .ok (.invokevirtual i, 3)) (hw0 : Cond.methodLink (mNm Y).cls i ⟨"java/lang/Object", "getClass", "()Ljava/lang/Class;"⟩ ∈ gtbl) (hw1 : Cond.selects "[Ljava/lang/Object;" ⟨"java/lang/Object", "getClass", "()Ljava/lang/Class;"⟩ ⟨"java/lang/Object", "getClass", "()Ljava/lang/Class;"⟩ ∈ gtbl) (hw2 : Cond.instanceMethod ⟨"java/lang/Object", "getClass", "()Ljava/lang/Class;"⟩ ∈ gtbl) (hw3 : Cond.native ⟨"java/lang/Object", "getClass", "()Ljava/lang/Class;"⟩ ∈ gtbl)
    (hF : 1 ≤ mFr Y) (hr8 : (st.map fun v => v.category).sum + 14 ≤ mWd Y) (ha : a < XB) (hc : ww[a]? = some (103, vs)) (h : GX sc Y mc ms (pc + 3) ls (.ref (XB + 300 + 304) :: st) ww k n K) : GX sc Y mc ms pc ls (.ref a :: st) ww k n K := by
  intro E hE p e R s m args below meth c H locs lh F hR hS hl hw hsl hst
  have hts := F.1.2.2.2.2
  have g := h E hE p e R s m args below meth c H locs lh F hR hS hl hw hsl (sc_c sc_J3 (sc_t hst))
  rw [List.map_cons, gV_J E (by omega)] at g
  have e1 : gV E (.ref a) = .ref (eP E a) := congrArg Value.ref (gA_in ha)
  rw [List.map_cons, e1]
  have hra := (F.2.2.2.1.1.2 3 _ (eT_at 3 (by omega))).2
  refine va_getC F.1.1 F.1.2.1 (hl.1.trans F.1.2.2.1.symm).symm F.1.2.2.2.1 (hts _ hw0) (va_Dc.use F.J.1.2.2) (hts _ hw1) (hts _ hw2) (hts _ hw3) F.J.1.2.1 ?_ (Nat.le_trans hF F.2.2.1.1) ?_ hd g
  · have h1 := hR.1 _ _ (arr_at (t := 3) hc (by decide))
    obtain ⟨_, _, _, _, _, h2⟩ := hra
    exact ⟨_, h1, rfl, h2⟩
  · rw [gV_cats]
    have := F.2.2.1.2.1
    omega
theorem x_ldcM (hd : decode (mBy Y) pc = .ok (.ldc i, 2)) (hw0 : Cond.classLink (mNm Y).cls i "[Ljava/lang/Object;" ∈ gtbl) (h : GX sc Y mc ms (pc + 2) ls (.ref (XB + 300 + 304) :: st) ww k n K) : GX sc Y mc ms pc ls st ww k n K := by
  intro E hE p e R s m args below meth c H locs lh F hR hS hl hw hsl hst
  have g := h E hE p e R s m args below meth c H locs lh F hR hS hl hw hsl (sc_c sc_J3 hst)
  rw [List.map_cons, gV_J E (by omega)] at g
  exact va_ldcM F.1.1 F.1.2.1 F.1.2.2.2.1 (F.1.2.2.2.2 _ hw0) F.J.1.2.1 hd g
/-- a row cloned -/
theorem x_clone {a t : Nat} {vs : List Value} {ad : String} (hd : decode (mBy Y) pc = .ok (.invokevirtual i, 3)) (ht : t < 3) (hnm : "[" ++ (aT t).toString = ad) (hw0 : Cond.methodLink (mNm Y).cls i ⟨ad, "clone", "()Ljava/lang/Object;"⟩ ∈ gtbl) (hw1 : Cond.sameMethod ad "java/lang/Object" "clone" "()Ljava/lang/Object;" ∈ gtbl) (hw2 : Cond.native ⟨"java/lang/Object", "clone", "()Ljava/lang/Object;"⟩ ∈ gtbl) (hw3 : Cond.instanceMethod ⟨"java/lang/Object", "clone", "()Ljava/lang/Object;"⟩ ∈ gtbl)
    (hw4 : Cond.selects ad ⟨ad, "clone", "()Ljava/lang/Object;"⟩ ⟨"java/lang/Object", "clone", "()Ljava/lang/Object;"⟩ ∈ gtbl) (hcl : (ad, "java/lang/Cloneable") ∈ castT) (hF : 1 ≤ mFr Y) (hr8 : (st.map fun v => v.category).sum + 14 ≤ mWd Y) (ha : a < XB) (hc : ww[a]? = some (100 + t, vs)) (hfit : ∀ j, j < vs.length → ∃ q, vs.getD j .null = .int q ∧ fits (aT t) (.int q) = true)
    (hk : k + 1 ≤ mc) (hn : n + vs.length ≤ ms) (hx : ww.length < XB) (h : GX sc Y mc ms (pc + 3) ls (.ref ww.length :: st) (ww ++ [(100 + t, vs)]) (k + 1) (n + vs.length) K) : GX sc Y mc ms pc ls (.ref a :: st) ww k n K := by
  intro E hE p e R s m args below meth c H locs lh F hR hS hl hw hsl hst
  have hts := F.1.2.2.2.2
  have e1 : gV E (.ref a) = .ref (eP E a) := congrArg Value.ref (gA_in ha)
  rw [List.map_cons, e1]
  have hra := (F.2.2.2.1.1.2 t _ (eT_at t (by omega))).2
  have hf : s.vm.findClass ad = some (eC E t) := by
    subst hnm
    match t, ht with
    | 0, _ => exact hra
    | 1, _ => exact hra
    | 2, _ => exact hra
  have ex : arrE E t vs = .inl (fun j => vInt (vs.getD j .null)) := by
    match t, ht with
    | 0, _ => rfl
    | 1, _ => rfl
    | 2, _ => rfl
  have hat := arr_at (E := E) hc (by omega)
  rw [ex] at hat
  refine va_clone F.1.1 F.1.2.1 (hl.1.trans F.1.2.2.1.symm).symm F.1.2.2.2.1 (hts _ hw0) (hts _ hw1) (hts _ hw2) (hts _ hw3) (hts _ hw4) (F.2.2.2.2.2.2.2.1.2.1 _ hcl) F.2.2.2.1.1 hR.1 hR.2 hS (eA_new F.2.2.2.1.2.1) (cX ww a) t hat (eT_at t (by omega)) hf (fun j v hv => ?_) (Nat.le_trans hF F.2.2.1.1) ?_ (Nat.le_trans hk F.2.2.1.2.2.1) (Nat.le_trans hn F.2.2.1.2.2.2) hd (fun q H1 hK1 hP1 hD1 hS1 => ?_)
  · have hv2 : (Array.ofFn (n := vs.length) fun j => Value.int (vInt (vs.getD j.val .null)))[j]? = some v := hv
    obtain ⟨hj, hv3⟩ := Array.getElem?_eq_some_iff.mp hv2
    rw [Array.size_ofFn] at hj
    rw [Array.getElem_ofFn] at hv3
    obtain ⟨q, q1, q2⟩ := hfit j hj
    rw [← hv3, q1]
    exact q2
  · rw [gV_cats]
    have := F.2.2.1.2.1
    omega
  · refine push_gx hE h (by show 100 + t < 900; omega) (hw _ (List.mem_of_getElem? hc)) hx ?_ F hP1 hD1 hS1 hl hw hsl (sc_t hst)
    rw [cE_arr, ex]
end XCopy
