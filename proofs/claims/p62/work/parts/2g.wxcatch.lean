/-! MOVING WORLDS: the class's throwing methods where they don't throw; methods that catch; Math -/
theorem KT_0 {X : XT} {e : Nat} {S : St} {K : RK → PS → Prop} (he : e = 0) : KT X e S K = K := by
  funext rk w
  unfold KT
  rw [if_pos he]
section WXT
variable {sc : SC} {Y Y' : MI} {mc ms mc' ms' pc k n i nA : Nat} {ls : List (Nat × Value)} {st rest As : List Value} {Z : LZ} {S S1 : St} {L : List PC} {K K' : Option Value → List PC → Prop} {K0 : RK → PS → Prop} {e : Nat} {ww : List PC}
theorem clTU (he : e = 0) (h : ∀ E, Ev E Y As (WX (xz L) S) mc ms (KT (xz L) e S1 (KU (xz L) S1))) : EvX sc Y As (wz (S, L)) mc ms (KXU (S1, L)) := clU (fun E => by have q := h E; rw [KT_0 he] at q; exact q)
theorem clTI {r : Int} (he : e = 0) (h : ∀ E, Ev E Y As (WX (xz L) S) mc ms (KT (xz L) e S1 (KI (xz L) r S1))) : EvX sc Y As (wz (S, L)) mc ms (KXI r (S1, L)) := clI (fun E => by have q := h E; rw [KT_0 he] at q; exact q)
theorem clTB {b : Bool} (he : e = 0) (h : ∀ E, Ev E Y As (WX (xz L) S) mc ms (KT (xz L) e S1 (KB (xz L) b S1))) : EvX sc Y As (wz (S, L)) mc ms (KXB b (S1, L)) := clB (fun E => by have q := h E; rw [KT_0 he] at q; exact q)
theorem clTD {r : UInt64} (he : e = 0) (h : ∀ E, Ev E Y As (WX (xz L) S) mc ms (KT (xz L) e S1 (KD (xz L) r S1))) : EvX sc Y As (wz (S, L)) mc ms (KXD r (S1, L)) := clD (fun E => by have q := h E; rw [KT_0 he] at q; exact q)
/-- a static method that catches: its contract never throws -/
theorem x_callH (hd : decode (mBy Y) pc = .ok (.invokestatic i, 3)) (hwl : LH (mNm Y).cls i Y' nA) (hf : Fits Y Y') (hA : As.length = nA) (hr8 : (rest.map fun v => v.category).sum ≤ 8) (hk : k + mc' ≤ mc) (hn : n + ms' ≤ ms)
    (h : ∀ E, EvH E Y' As (ww, false) mc' ms' K0) (hp : ∀ rk S', K0 rk S' → ∃ v, rk = .inl v ∧ S'.2 = false ∧ (∀ x, v = some x → ∀ w', Sc w' x) ∧ Gr ww S'.1 ∧ (WfW ww → WfW S'.1) ∧ K' v S'.1)
    (hK : ∀ v w', K' v w' → GX sc Y mc ms (pc + 3) ls (v.toList ++ rest) w' (k + mc') (n + ms') K) : GX sc Y mc ms pc ls (As.reverse ++ rest) ww k n K := by
  intro E hE p e R s m args below meth c H locs lh F hR hS hl hw hsl hst
  have hts := F.1.2.2.2.2
  obtain ⟨l1, l2, l3, l4, l5, l6⟩ := hwl
  have e2 : (As.reverse ++ rest).map (gV E) = (As.map (gV E)).reverse ++ rest.map (gV E) := by rw [List.map_append, List.map_reverse]
  rw [e2]
  have hrun := vx_runSX (p := p) (e := e) (below := below) (meth := meth) (locs := locs) (cells := k) (slots := n) (m := m) (g := F0 m pc lh ((As.map (gV E)).reverse ++ rest.map (gV E))) (As := As.map (gV E)) (rest := rest.map (gV E)) (H := H) (hh := mHh Y') (bytes := mBy Y') (maxL := mLo Y') (ret := mRt Y') (own := (mNm Y).cls) (index := i) (n := nA)
    ⟨F.1.1, F.1.2.1, F.1.2.2.1, F.1.2.2.2.1, hts⟩ (h E) ⟨⟨rfl, rfl, Nat.le_trans hf.1 F.2.2.1.1, Nat.le_trans hf.2 F.2.2.1.2.1, fun w hw a' U hW => ?_, List.mem_cons_self⟩, hts _ l2, hts _ l1, l3, fun sig hsig => ?_, hts _ l5, hts _ l6⟩
    ⟨frb, fun U hU hW => ⟨rfl, F.2.2.2.step hW (by rw [hU]; exact hS), by rw [hU]; exact hR⟩⟩ rfl (by rw [List.length_map]; exact hA) hl.1 rfl (room_at (cats_le hr8)) hd ⟨Nat.le_trans hk F.2.2.1.2.2.1, Nat.le_trans hn F.2.2.1.2.2.2⟩
  · have hr : va_Run p (eL E) e R s m args below meth c H locs k n mc' ms' (F0 m pc lh ((As.map (gV E)).reverse ++ rest.map (gV E))) (rest.map (gV E)) (QX E ww K' (As.map (gV E)).toArray) (eA E) := by
      intro T hT X
      rcases hrun T hT X with ⟨v, st₀, t, T', L, h0, X', hL, q1, q2, ⟨⟨v', S', r1, r2, r3⟩, r4⟩, st⟩ | ⟨q, st₀, t, T', L, E1, ce, h0, X', hL, q1, q2, ⟨⟨S', r1, -⟩, -⟩, -⟩
      · obtain ⟨v2, p1, p2, p3, p4, p5, p6⟩ := hp _ _ r2
        cases Sum.inl.inj p1
        obtain ⟨w', f⟩ := S'
        cases (p2 : f = false)
        exact ⟨v, st₀, t, T', L, h0, X', hL, q1, q2, ⟨⟨E, v', w', Ex.rfl', p4, p5 hw, fun x hx => p3 x hx w', r1, p6, r3⟩, r4⟩, st⟩
      · obtain ⟨v2, p1, -⟩ := hp _ _ r1
        cases p1
    exact run_gx hE hr F hS hl hsl (sc_ar hst) hK
  · have hm : w ∈ gtbl := by
      rcases List.mem_cons.mp hw with rfl | hw
      · exact l2
      · exact hw
    exact word_at hW (good_of_word (gt_good w hm)) (hts w hm)
  · rw [hsig] at l4
    exact (Option.some.inj l4).symm
theorem clHI {r : Int} : ∀ rk S', KI (xz L) r S1 rk S' → ∃ v, rk = .inl v ∧ S'.2 = false ∧ (∀ x, v = some x → ∀ w', Sc w' x) ∧ Gr (wz (S, L)) S'.1 ∧ (WfW (wz (S, L)) → WfW S'.1) ∧ KXI r (S1, L) v S'.1 := by
  rintro _ _ ⟨rfl, h1, rfl⟩
  refine ⟨_, rfl, rfl, fun x hx => (by cases hx; exact fun _ => trivial), ?_, fun hw => ?_, rfl, h1, ?_⟩
  all_goals rw [xz_wx]
  · exact gr_S
  · exact wf_S hw
/-- the size of a list, read by its iterator -/
theorem wx_getSz {a : Nat} {z : Int} (hcl : (mNm Y).cls = "java/util/ArrayList$Itr") (h0 : gfI Z.2 a 13 1 = some z) (hd : decode (mBy Y) pc = .ok (.getfield 28, 3)) (h : GX sc Y mc ms (pc + 3) ls (V z :: st) (wz Z) k n K) : GX sc Y mc ms pc ls (.ref a :: st) (wz Z) k n K := by
  obtain ⟨h1, -⟩ := vI_at h0
  obtain ⟨vs, h2, h3⟩ := cf_at h1
  refine lk_ind (L := Z.2) (P := fun a c => c = (13, vs) → GX sc Y mc ms pc ls (.ref a :: st) (wz Z) k n K) (fun a c hc e => ?_) (fun j hj e => ?_) (fun j hj e => ?_) (fun j hj e => ?_) (fun e => ?_) (fun e => ?_) a _ h2 rfl
  · subst e
    obtain ⟨q1, q2, -⟩ := hp_at hc
    intro E hE p e R s m args below meth c H locs lh F hR hS hl hw hsl hst
    have e1 : gV E (.ref a) = .ref (eP E a) := congrArg Value.ref (gA_in q1)
    rw [List.map_cons, e1]
    have h5 := cW_at (E := E) q2 (show 13 < 900 by decide)
    rw [cE_obj (by decide)] at h5
    have ho := F.1.2.2.2.1
    rw [hcl] at ho
    exact va_getN (D := eD E) (ci := 13) (C := RC 13) (T := TC 13) (N := NC 13) F.1.1 F.1.2.1 F.1.2.2.2.2 (uwC 13 (by decide)) ho F.2.2.2.1.1 hR.1 (cX (wz Z) a) h5 (CL_at 13 (by decide)) 1 (by decide) (va_Nw.use rfl F.J.2.2.2.2.2.2.2.2) (fun _ h9 => h9) (gV_at h3) hd (h E hE p e R s m args below meth c H locs lh F hR hS hl hw hsl (sc_c trivial (sc_t hst)))
  all_goals cases e
/-! Math -/
theorem x_mmin {x y : Int32} (hd : decode (mBy Y) pc = .ok (.invokestatic i, 3)) (h1 : Cond.methodLink (mNm Y).cls i Lib.Math.min.name ∈ gtbl) (hF : 1 ≤ mFr Y) (hr8 : (st.map fun v => v.category).sum + 13 ≤ mWd Y) (hk : k ≤ mc) (hn : n ≤ ms) (h : GX sc Y mc ms (pc + 3) ls (.int (if y < x then y else x) :: st) ww k n K) : GX sc Y mc ms pc ls (.int y :: .int x :: st) ww k n K := by
  intro E hE p e R s m args below meth c H locs lh F hR hS hl hw hsl hst
  have hts := F.1.2.2.2.2
  exact va_mmin F.1.1 F.1.2.1 (hl.1.trans F.1.2.2.1.symm).symm F.1.2.2.2.1 (hts _ h1) (hts _ q_minS) (hts _ q_mathI) (hts _ q_minC) (Nat.le_trans hF F.2.2.1.1) (cats_le2 hr8 F.2.2.1.2.1) (Nat.le_trans hk F.2.2.1.2.2.1) (Nat.le_trans hn F.2.2.1.2.2.2) hd (h E hE p e R s m args below meth c H locs lh F hR hS hl hw hsl (sc_c trivial (sc_t (sc_t hst))))
theorem x_mmax {x y : Int32} (hd : decode (mBy Y) pc = .ok (.invokestatic i, 3)) (h1 : Cond.methodLink (mNm Y).cls i Lib.Math.max.name ∈ gtbl) (hF : 1 ≤ mFr Y) (hr8 : (st.map fun v => v.category).sum + 13 ≤ mWd Y) (hk : k ≤ mc) (hn : n ≤ ms) (h : GX sc Y mc ms (pc + 3) ls (.int (if x < y then y else x) :: st) ww k n K) : GX sc Y mc ms pc ls (.int y :: .int x :: st) ww k n K := by
  intro E hE p e R s m args below meth c H locs lh F hR hS hl hw hsl hst
  have hts := F.1.2.2.2.2
  exact va_mmax F.1.1 F.1.2.1 (hl.1.trans F.1.2.2.1.symm).symm F.1.2.2.2.1 (hts _ h1) (hts _ q_maxS) (hts _ q_mathI) (hts _ q_maxC) (Nat.le_trans hF F.2.2.1.1) (cats_le2 hr8 F.2.2.1.2.1) (Nat.le_trans hk F.2.2.1.2.2.1) (Nat.le_trans hn F.2.2.1.2.2.2) hd (h E hE p e R s m args below meth c H locs lh F hR hS hl hw hsl (sc_c trivial (sc_t (sc_t hst))))
theorem x_mabs {x : Int32} (hd : decode (mBy Y) pc = .ok (.invokestatic i, 3)) (h1 : Cond.methodLink (mNm Y).cls i Lib.Math.abs.name ∈ gtbl) (hF : 1 ≤ mFr Y) (hr8 : (st.map fun v => v.category).sum + 13 ≤ mWd Y) (hk : k ≤ mc) (hn : n ≤ ms) (h : GX sc Y mc ms (pc + 3) ls (.int (if 0 ≤ x then x else 0 - x) :: st) ww k n K) : GX sc Y mc ms pc ls (.int x :: st) ww k n K := by
  intro E hE p e R s m args below meth c H locs lh F hR hS hl hw hsl hst
  have hts := F.1.2.2.2.2
  exact va_mabs F.1.1 F.1.2.1 (hl.1.trans F.1.2.2.1.symm).symm F.1.2.2.2.1 (hts _ h1) (hts _ q_absS) (hts _ q_mathI) (hts _ q_absC) (Nat.le_trans hF F.2.2.1.1) (cats_le2 hr8 F.2.2.1.2.1) (Nat.le_trans hk F.2.2.1.2.2.1) (Nat.le_trans hn F.2.2.1.2.2.2) hd (h E hE p e R s m args below meth c H locs lh F hR hS hl hw hsl (sc_c trivial (sc_t hst)))
/-- a field that the reference's class inherits -/
theorem x_getfieldR {i a ci f : Nat} {vs : List Value} {v : Value} {rf : String} (hd : decode (mBy Y) pc = .ok (.getfield i, 3))
    (hwf : Cond.fieldLink (mNm Y).cls i rf (TC ci f).2.1 (TC ci f).2.2.1 ∈ gtbl) (hsm : Cond.sameField rf (TC ci f).1 (TC ci f).2.1 (TC ci f).2.2.1 ∈ gtbl) (hci : ci < 18) (hf : f < NC ci) (ha : a < XB) (hc : ww[a]? = some (ci, vs)) (hv : vs[f]? = some v)
    (h : GX sc Y mc ms (pc + 3) ls (v :: st) ww k n K) : GX sc Y mc ms pc ls (.ref a :: st) ww k n K := by
  intro E hE p e R s m args below meth c H locs lh F hR hS hl hw hsl hst
  have e1 : gV E (.ref a) = .ref (eP E a) := congrArg Value.ref (gA_in ha)
  rw [List.map_cons, e1]
  have h1 := cW_at (E := E) hc (Nat.lt_trans hci (by decide))
  rw [cE_obj (by omega)] at h1
  exact va_get (D := eD E) (ci := ci) (v := gV E v) (C := RC ci) (T := TC ci) (N := NC ci) F.1.1 F.1.2.1 F.1.2.2.2.2 (uwC ci hci) F.1.2.2.2.1 F.2.2.2.1.1 hR.1 (cX ww a) h1 (CL_at ci hci) f hf (F.1.2.2.2.2 _ hwf) (fun x h9 => u_same (F.1.2.2.2.2 _ hsm) x h9) (gV_at hv) hd (h E hE p e R s m args below meth c H locs lh F hR hS hl hw hsl (sc_c ((hw _ (List.mem_of_getElem? hc)) _ (List.mem_of_getElem? hv)) (sc_t hst)))
theorem wx_getIR {a f : Nat} {z : Int} {rf : String} (h0 : gfI Z.2 a 13 f = some z) (hd : decode (mBy Y) pc = .ok (.getfield i, 3)) (hwf : Cond.fieldLink (mNm Y).cls i rf (TC 13 f).2.1 (TC 13 f).2.2.1 ∈ gtbl) (hsm : Cond.sameField rf (TC 13 f).1 (TC 13 f).2.1 (TC 13 f).2.2.1 ∈ gtbl) (hf : f < NC 13)
    (h : GX sc Y mc ms (pc + 3) ls (V z :: st) (wz Z) k n K) : GX sc Y mc ms pc ls (.ref a :: st) (wz Z) k n K := by
  obtain ⟨h1, -⟩ := vI_at h0
  obtain ⟨vs, h2, h3⟩ := cf_at h1
  refine lk_ind (L := Z.2) (P := fun a c => c = (13, vs) → GX sc Y mc ms pc ls (.ref a :: st) (wz Z) k n K) (fun a c hc e => ?_) (fun j hj e => ?_) (fun j hj e => ?_) (fun j hj e => ?_) (fun e => ?_) (fun e => ?_) a _ h2 rfl
  · subst e
    obtain ⟨q1, q2, -⟩ := hp_at hc
    exact x_getfieldR hd hwf hsm (by decide) hf q1 q2 h3 h
  all_goals cases e
theorem x_putfieldR {i a ci f : Nat} {vs : List Value} {v : Value} {rf : String} (hd : decode (mBy Y) pc = .ok (.putfield i, 3))
    (hwf : Cond.fieldLink (mNm Y).cls i rf (TC ci f).2.1 (TC ci f).2.2.1 ∈ gtbl) (hsm : Cond.sameField rf (TC ci f).1 (TC ci f).2.1 (TC ci f).2.2.1 ∈ gtbl) (hci : ci < 18) (hf : f < NC ci) (hfin : (TC ci f).2.2.2 = false) (hty : okV (TYC ci f) v) (ha : a < XB) (hc : ww[a]? = some (ci, vs)) (hl0 : f < vs.length)
    (h : GX sc Y mc ms (pc + 3) ls st (ww.set a (ci, vs.set f v)) k n K) : GX sc Y mc ms pc ls (v :: .ref a :: st) ww k n K := by
  intro E hE p e R s m args below meth c H locs lh F hR hS hl hw hsl hst
  have e1 : gV E (.ref a) = .ref (eP E a) := congrArg Value.ref (gA_in ha)
  show W p (eL E) e R s m args below meth c H locs k n _ (F0 m pc lh (gV E v :: gV E (.ref a) :: st.map (gV E)))
  rw [e1]
  have h1 := cW_at (E := E) hc (Nat.lt_trans hci (by decide))
  rw [cE_obj (by omega)] at h1
  refine va_put (D := eD E) (ci := ci) (v := gV E v) (ty := TYC ci f) (C := RC ci) (T := TC ci) (N := NC ci) F.1.1 F.1.2.1 F.1.2.2.2.2 (uwC ci hci) (TYC ci) (tyC ci hci) (nmC ci hci) F.1.2.2.2.1 F.2.2.2.1.1 hR.1 hR.2 hS (cX ww a) h1 (CL_at ci hci) f hf (F.1.2.2.2.2 _ hwf) (fun x h9 => u_same (F.1.2.2.2.2 _ hsm) x h9) hfin (tyC ci hci f hf) (okV_g hty).1 (okV_g hty).2 (by rw [List.length_map]; exact hl0) hd (fun H1 locs1 hP1 hD1 hS1 => ?_)
  refine set_gx hE h hc (Nat.lt_trans hci (by decide)) (Nat.lt_trans hci (by decide)) (sc_set (hw _ (List.mem_of_getElem? hc)) (sc_h hst)) F hR.2 ?_ hS1 hl hw hsl (sc_t (sc_t hst))
  rw [cE_obj (by omega), ← gV_set]
  exact hP1
theorem wx_putR {a ci f : Nat} {v : Value} {L1 : List PC} {rf : String} (h0 : pf Z.2 a ci f v = some L1) (hd : decode (mBy Y) pc = .ok (.putfield i, 3)) (hwf : Cond.fieldLink (mNm Y).cls i rf (TC ci f).2.1 (TC ci f).2.2.1 ∈ gtbl) (hsm : Cond.sameField rf (TC ci f).1 (TC ci f).2.1 (TC ci f).2.2.1 ∈ gtbl) (hci : ci < 18) (hf : f < NC ci) (hfin : (TC ci f).2.2.2 = false) (hty : okV (TYC ci f) v)
    (h : GX sc Y mc ms (pc + 3) ls st (wz (Z.1, L1)) k n K) : GX sc Y mc ms pc ls (v :: .ref a :: st) (wz Z) k n K := by
  obtain ⟨vs, h1, h2, rfl⟩ := pf_at h0
  obtain ⟨q1, q2, q3⟩ := hp_at h1
  refine x_putfieldR hd hwf hsm hci hf hfin hty q1 q2 h2 ?_
  rw [wz_set q3]
  exact h
/-- Object's constructor, which does nothing -/
theorem x_objinit {x : Nat} (hd : decode (mBy Y) pc = .ok (.invokespecial i, 3)) (h1 : Cond.methodLink (mNm Y).cls i Lib.objectInit ∈ gtbl) (hF : 1 ≤ mFr Y) (hW : 24 ≤ mWd Y) (hr8 : (rest.map fun v => v.category).sum ≤ 8)
    (h : GX sc Y mc ms (pc + 3) ls rest ww k n K) : GX sc Y mc ms pc ls (.ref x :: rest) ww k n K := by
  intro E hE p e R s m args below meth c H locs lh F hR hS hl hw hsl hst
  have hts := F.1.2.2.2.2
  have h8 := room_at (m := m) (pc := pc) (ls := lh) (st := gV E (.ref x) :: rest.map (gV E)) (cats_le (E := E) hr8)
  refine W.objInit (g := F0 m pc lh (gV E (.ref x) :: rest.map (gV E))) F.1.1 F.1.2.1 F.1.2.2.2.1 (hts _ h1) (hts _ q_objI) (hts _ q_objC) rfl (by rw [F.1.2.2.1]; exact hl.1) rfl hd (Nat.le_trans hF F.2.2.1.1) (by have := F.2.2.1.2.1; omega) ?_
  exact h E hE p e R s m args below meth c H locs lh F hR hS hl hw hsl (sc_t hst)
end WXT
