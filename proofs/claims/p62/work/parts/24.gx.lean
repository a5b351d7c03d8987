/-! MOVING WORLDS: what the law does, which makes cells. A value is well placed when the cell that it names is made. -/
def wAd (E : EV) (ad : Nat → Nat) : EV := (E.1, E.2.1, E.2.2.1, E.2.2.2.1, E.2.2.2.2.1, E.2.2.2.2.2.1, E.2.2.2.2.2.2.1, E.2.2.2.2.2.2.2.1, E.2.2.2.2.2.2.2.2.1, ad)
def mk_ (w : List PC) (a : Nat) : Prop := ∃ c, w[a]? = some c ∧ c.1 < 900
def Sc (w : List PC) : Value → Prop
  | .ref a => XB ≤ a ∨ mk_ w a
  | _ => True
def ScV (w : List PC) (l : List Value) : Prop := ∀ v ∈ l, Sc w v
def ScL (w : List PC) (ls : List (Nat × Value)) : Prop := ∀ q ∈ ls, Sc w q.2
def WfW (w : List PC) : Prop := ∀ c ∈ w, ScV w c.2
def Gr (w w' : List PC) : Prop := ∀ a, mk_ w a → mk_ w' a
def Ex (w : List PC) (E E' : EV) : Prop := ∃ ad, E' = wAd E ad ∧ ∀ a, mk_ w a → ad a = eAd E a
section Moving
variable {w w' w1 : List PC} {E E' E1 E2 : EV} {v v1 : Value} {st l : List Value} {ls : List (Nat × Value)} {a i : Nat} {c c' : PC}
theorem Gr.rfl' : Gr w w := fun _ h => h
theorem Gr.trans (h : Gr w w') (h' : Gr w' w1) : Gr w w1 := fun a ha => h' a (h a ha)
theorem Ex.rfl' : Ex w E E := ⟨eAd E, rfl, fun _ _ => rfl⟩
theorem Ex.trans (h : Ex w E E1) (hg : Gr w w1) (h' : Ex w1 E1 E2) : Ex w E E2 := by
  obtain ⟨ad, rfl, h1⟩ := h
  obtain ⟨ad', rfl, h2⟩ := h'
  exact ⟨ad', rfl, fun a ha => (h2 a (hg a ha)).trans (h1 a ha)⟩
theorem sc_t (h : ScV w (v :: st)) : ScV w st := fun x hx => h x (List.mem_cons_of_mem _ hx)
theorem sc_h (h : ScV w (v :: st)) : Sc w v := h v List.mem_cons_self
theorem sc_c (h1 : Sc w v) (h : ScV w st) : ScV w (v :: st) := fun x hx => by
  rcases List.mem_cons.mp hx with rfl | hx
  · exact h1
  · exact h x hx
theorem sc_n : ScV w [] := fun _ h => nomatch h
theorem sc_i {z : Int32} : Sc w (.int z) := trivial
theorem sc_app {l' : List Value} (h : ScV w l) (h' : ScV w l') : ScV w (l ++ l') := fun x hx => (List.mem_append.mp hx).elim (h x) (h' x)
theorem sc_al {l' : List Value} (h : ScV w (l ++ l')) : ScV w l := fun x hx => h x (List.mem_append_left _ hx)
theorem sc_ar {l' : List Value} (h : ScV w (l ++ l')) : ScV w l' := fun x hx => h x (List.mem_append_right _ hx)
theorem sc_rev (h : ScV w l.reverse) : ScV w l := fun x hx => h x (List.mem_reverse.mpr hx)
theorem Sc.gr (hg : Gr w w') (h : Sc w v) : Sc w' v := by
  cases v with
  | ref a => exact h.imp id (hg a)
  | _ => trivial
theorem ScV.gr (hg : Gr w w') (h : ScV w st) : ScV w' st := fun x hx => (h x hx).gr hg
theorem ScL.gr (hg : Gr w w') (h : ScL w ls) : ScL w' ls := fun x hx => (h x hx).gr hg
theorem ScL.at (h : ScL w ls) {j : Nat} {q : Nat × Value} (hl : ls[j]? = some q) : Sc w q.2 := h q (List.mem_of_getElem? hl)
theorem ScL.stI {ls2 : List (Nat × Value)} {k : Nat} (he : stI k v ls = ls2) (h1 : Sc w v) (h : ScL w ls) : ScL w ls2 := by
  subst he
  intro q hq
  rcases List.mem_cons.mp hq with rfl | hq
  · exact h1
  · exact h q (List.mem_filter.mp hq).1
theorem ScL.stL {ls2 : List (Nat × Value)} {k : Nat} (he : stL k v ls = ls2) (h1 : Sc w v) (h : ScL w ls) : ScL w ls2 := by
  subst he
  intro q hq
  rcases List.mem_cons.mp hq with rfl | hq
  · exact h1
  · exact h q (List.mem_filter.mp hq).1
theorem gA_ex (h : Ex w E E') (hs : XB ≤ a ∨ mk_ w a) : gA E' a = gA E a := by
  obtain ⟨ad, rfl, he⟩ := h
  unfold gA
  by_cases c : a < XB
  · rw [if_pos c, if_pos c]
    exact he a (hs.resolve_left (by omega))
  · rw [if_neg c, if_neg c]; rfl
theorem gV_ex (h : Ex w E E') (hs : Sc w v) : gV E' v = gV E v := by
  cases v with
  | ref a => exact congrArg Value.ref (gA_ex h hs)
  | _ => rfl
theorem mp_ex (h : Ex w E E') (hs : ScV w st) : st.map (gV E') = st.map (gV E) := List.map_congr_left (fun x hx => gV_ex h (hs x hx))
theorem gL_ex (h : Ex w E E') (hs : ScL w ls) : gL E' ls = gL E ls := List.map_congr_left (fun q hq => by rw [gV_ex h (hs q hq)])
theorem vR_ex (h : Ex w E E') (hs : Sc w v) : vRef E' v = vRef E v := by
  cases v with
  | ref a => exact congrArg some (gA_ex h hs)
  | _ => rfl
theorem sc_get {j : Nat} (hs : ScV w l) : Sc w (l.getD j .null) := by
  rw [List.getD_eq_getElem?_getD]
  cases e : l[j]? with
  | none => trivial
  | some x => exact hs x (List.mem_of_getElem? e)
theorem arrE_ex (h : Ex w E E') {t : Nat} (hs : ScV w l) : arrE E' t l = arrE E t l := by
  have e : (fun j => vRef E' (l.getD j .null)) = fun j => vRef E (l.getD j .null) := funext (fun j => vR_ex h (sc_get hs))
  unfold arrE
  split
  · rfl
  · rfl
  · rfl
  · rw [e]
theorem cE_ex (h : Ex w E E') (hs : ScV w c.2) : cE E' c = cE E c := by
  have hC : eC E' = eC E := by obtain ⟨ad, rfl, -⟩ := h; rfl
  unfold cE
  rw [mp_ex h hs, arrE_ex h hs, hC]
theorem cW_ex (h : Ex w E E') (hw : WfW w) : cW E' w = cW E w := by
  unfold cW
  refine List.map_congr_left (fun q hq => ?_)
  obtain ⟨h1, h2⟩ := List.mem_filter.mp hq
  have h1 := List.mem_zipIdx_iff_getElem?.mp h1
  rw [cE_ex h (hw _ (List.mem_of_getElem? h1))]
  obtain ⟨ad, rfl, he⟩ := h
  exact Prod.ext (he q.2 ⟨q.1, h1, of_decide_eq_true h2⟩) rfl
theorem Gr.set (hc : w[a]? = some c) (hk' : c'.1 < 900) : Gr w (w.set a c') := fun x ⟨d, hd, hk⟩ => by
  by_cases e : a = x
  · subst e
    exact ⟨c', by rw [List.getElem?_set, if_pos rfl, if_pos (List.getElem?_eq_some_iff.mp hc).1], hk'⟩
  · exact ⟨d, by rw [List.getElem?_set, if_neg e]; exact hd, hk⟩
theorem WfW.set (hw : WfW w) (hc : w[a]? = some c) (hk' : c'.1 < 900) (hs : ScV w c'.2) : WfW (w.set a c') := fun d hd => by
  refine ScV.gr (Gr.set hc hk') ?_
  rcases List.mem_or_eq_of_mem_set hd with h | h
  · exact hw d h
  · rw [h]; exact hs
theorem Gr.push : Gr w (w ++ [c]) := fun x ⟨d, hd, hk⟩ => ⟨d, by rw [List.getElem?_append_left (List.getElem?_eq_some_iff.mp hd).1]; exact hd, hk⟩
theorem mk_.push (hk : c.1 < 900) : mk_ (w ++ [c]) w.length := ⟨c, by simp, hk⟩
theorem WfW.push (hw : WfW w) (hs : ScV w c.2) : WfW (w ++ [c]) := fun d hd => by
  refine ScV.gr Gr.push ?_
  rcases List.mem_append.mp hd with h | h
  · exact hw d h
  · rw [List.mem_singleton.mp h]; exact hs
theorem mk_lt (h : mk_ w a) : a < w.length := by obtain ⟨c, hc, -⟩ := h; exact (List.getElem?_eq_some_iff.mp hc).1
theorem Ex.push {q : Nat} : Ex w E (wAd E (fun x => if x = w.length then q else eAd E x)) := ⟨_, rfl, fun x hx => if_neg (Nat.ne_of_lt (mk_lt hx))⟩
end Moving
def QX (E : EV) (w : List PC) (K : Option Value → List PC → Prop) : Array Value → State → Outcome → State → Prop := fun _ st o t => (∃ (E' : EV) (v : Option Value) (w' : List PC), Ex w E E' ∧ Gr w w' ∧ WfW w' ∧ (∀ x, v = some x → Sc w' x) ∧ o = .returned (v.map (gV E')) ∧ K v w' ∧ Rep E' (w', false) 0 t.heap) ∧ va_F (eA E) st t
/-- the script: what stands in its row, and its length -/
abbrev SC : Type := (Nat → Int32) × Nat
def SE (sc : SC) (E : EV) : Prop := eSx E = sc.1 ∧ eSl E = sc.2
/-- from here the method comes to its end with K, whatever the addresses are -/
def GX (sc : SC) (Y : MI) (mc ms pc : Nat) (ls : List (Nat × Value)) (st : List Value) (w : List PC) (k n : Nat) (K : Option Value → List PC → Prop) : Prop :=
  ∀ (E : EV), SE sc E → ∀ (p : Program) (e : Env) (R : Room) (s : State) (m : MethodId) (args : Array Value) (below : List Frame) (meth : Method) (c : Code) (H : Heap) (locs : List Loc) (lh : Array Slot),
    Fr E Y mc ms p R s m args meth c → Rep E (w, false) 0 H → va_S (eA E) s.heap H locs → lv_has lh (mLo Y) (gL E ls) → WfW w → ScL w ls → ScV w st →
    W p (eL E) e R s m args below meth c H locs k n (MQ below (QX E w K) args s mc ms (eA E)) (F0 m pc lh (st.map (gV E)))
theorem W.up {p : Program} {l : Launch} {e : Env} {R : Room} {s : State} {m : MethodId} {args : Array Value} {below : List Frame} {meth : Method} {c : Code} {H : Heap} {locs : List Loc} {cells slots : Nat} {Q Q' : State → Prop} {g : JFrame} (h : ∀ t, Q t → Q' t)
    (k : W p l e R s m args below meth c H locs cells slots Q g) : W p l e R s m args below meth c H locs cells slots Q' g := fun T hT X => by
  obtain ⟨t, a1, a2⟩ := k T hT X
  exact ⟨t, a1, h t a2⟩
theorem MQ.up {below : List Frame} {Qc Qc' : Array Value → State → Outcome → State → Prop} {a : Array Value} {s : State} {mc ms : Nat} {free : Addr → Prop} (h : ∀ o t, Qc a s o t → Qc' a s o t) (t : State) (k : MQ below Qc a s mc ms free t) : MQ below Qc' a s mc ms free t := by
  obtain ⟨o, h1, h2, h3, h4⟩ := k
  exact ⟨o, h1, h2, h _ _ h3, h4⟩
theorem QX.up {w w1 : List PC} {E E1 : EV} {K : Option Value → List PC → Prop} {a : Array Value} {s : State} (hx : Ex w E E1) (hg : Gr w w1) (o : Outcome) (t : State) (h : QX E1 w1 K a s o t) : QX E w K a s o t := by
  obtain ⟨⟨E', v, w', h1, h2, h3⟩, h4⟩ := h
  refine ⟨⟨E', v, w', hx.trans hg h1, hg.trans h2, h3⟩, ?_⟩
  obtain ⟨ad, rfl, -⟩ := hx
  exact h4
/-- fewer locals -/
theorem x_weak {sc : SC} {Y : MI} {mc ms pc k n : Nat} {ls ls' : List (Nat × Value)} {st : List Value} {w : List PC} {K : Option Value → List PC → Prop} (hs : ∀ q ∈ ls', q ∈ ls) (h : GX sc Y mc ms pc ls' st w k n K) : GX sc Y mc ms pc ls st w k n K :=
  fun E hE p e R s m args below meth c H locs lh F hR hS hl hw hsl hst => h E hE p e R s m args below meth c H locs lh F hR hS (gL_sub hl hs) hw (fun q hq => hsl q (hs q hq)) hst
theorem x_room {sc : SC} {Y : MI} {mc ms pc k n k' n' : Nat} {ls : List (Nat × Value)} {st : List Value} {w : List PC} {K : Option Value → List PC → Prop} (h1 : k ≤ k') (h2 : n ≤ n') (h : GX sc Y mc ms pc ls st w k' n' K) : GX sc Y mc ms pc ls st w k n K :=
  fun E hE p e R s m args below meth c H locs lh F hR hS hl hw hsl hst => W.widen h1 h2 (h E hE p e R s m args below meth c H locs lh F hR hS hl hw hsl hst)
theorem x_iconst {sc : SC} {Y : MI} {mc ms pc k n : Nat} {ls : List (Nat × Value)} {st : List Value} {ww : List PC} {K : Option Value → List PC → Prop} {z : Int} {v : Int32} (hd : decode (mBy Y) pc = .ok (.iconst z, 1)) (hv : Int32.ofInt z = v) (h : GX sc Y mc ms (pc + 1) ls (.int v :: st) ww k n K) : GX sc Y mc ms (pc) ls (st) ww k n K := fun E hE p e R s m args below meth c H locs lh F hR hS hl hw hsl hst => lv_iconst F.1.1 F.1.2.1 hd hv (h E hE p e R s m args below meth c H locs lh F hR hS hl hw hsl (sc_c trivial hst))
theorem x_bipush {sc : SC} {Y : MI} {mc ms pc k n : Nat} {ls : List (Nat × Value)} {st : List Value} {ww : List PC} {K : Option Value → List PC → Prop} {z : Int} {v : Int32} (hd : decode (mBy Y) pc = .ok (.bipush z, 2)) (hv : (Int8.ofInt z).toInt32 = v) (h : GX sc Y mc ms (pc + 2) ls (.int v :: st) ww k n K) : GX sc Y mc ms (pc) ls (st) ww k n K := fun E hE p e R s m args below meth c H locs lh F hR hS hl hw hsl hst => lv_bipush F.1.1 F.1.2.1 hd hv (h E hE p e R s m args below meth c H locs lh F hR hS hl hw hsl (sc_c trivial hst))
theorem x_sipush {sc : SC} {Y : MI} {mc ms pc k n : Nat} {ls : List (Nat × Value)} {st : List Value} {ww : List PC} {K : Option Value → List PC → Prop} {z : Int} {v : Int32} (hd : decode (mBy Y) pc = .ok (.sipush z, 3)) (hv : (Int16.ofInt z).toInt32 = v) (h : GX sc Y mc ms (pc + 3) ls (.int v :: st) ww k n K) : GX sc Y mc ms (pc) ls (st) ww k n K := fun E hE p e R s m args below meth c H locs lh F hR hS hl hw hsl hst => lv_sipush F.1.1 F.1.2.1 hd hv (h E hE p e R s m args below meth c H locs lh F hR hS hl hw hsl (sc_c trivial hst))
theorem x_dconst0 {sc : SC} {Y : MI} {mc ms pc k n : Nat} {ls : List (Nat × Value)} {st : List Value} {ww : List PC} {K : Option Value → List PC → Prop}  (hd : decode (mBy Y) pc = .ok (.dconst 0, 1)) (h : GX sc Y mc ms (pc + 1) ls (.double 0 :: st) ww k n K) : GX sc Y mc ms (pc) ls (st) ww k n K := fun E hE p e R s m args below meth c H locs lh F hR hS hl hw hsl hst => lv_dconst0 F.1.1 F.1.2.1 hd (h E hE p e R s m args below meth c H locs lh F hR hS hl hw hsl (sc_c trivial hst))
theorem x_ldc {sc : SC} {Y : MI} {mc ms pc k n : Nat} {ls : List (Nat × Value)} {st : List Value} {ww : List PC} {K : Option Value → List PC → Prop} {i : Nat} {v : Int32} (hd : decode (mBy Y) pc = .ok (.ldc i, 2)) (hc : Cond.constant (mNm Y).cls i v ∈ gtbl) (h : GX sc Y mc ms (pc + 2) ls (.int v :: st) ww k n K) : GX sc Y mc ms (pc) ls (st) ww k n K := fun E hE p e R s m args below meth c H locs lh F hR hS hl hw hsl hst => lv_ldc F.1.1 F.1.2.1 F.1.2.2.2.1 (F.1.2.2.2.2 _ hc) hd (h E hE p e R s m args below meth c H locs lh F hR hS hl hw hsl (sc_c trivial hst))
theorem x_ldcw {sc : SC} {Y : MI} {mc ms pc k n : Nat} {ls : List (Nat × Value)} {st : List Value} {ww : List PC} {K : Option Value → List PC → Prop} {i : Nat} {v : Int32} (hd : decode (mBy Y) pc = .ok (.ldc_w i, 3)) (hc : Cond.constant (mNm Y).cls i v ∈ gtbl) (h : GX sc Y mc ms (pc + 3) ls (.int v :: st) ww k n K) : GX sc Y mc ms (pc) ls (st) ww k n K := fun E hE p e R s m args below meth c H locs lh F hR hS hl hw hsl hst => lv_ldcw F.1.1 F.1.2.1 F.1.2.2.2.1 (F.1.2.2.2.2 _ hc) hd (h E hE p e R s m args below meth c H locs lh F hR hS hl hw hsl (sc_c trivial hst))
theorem x_iload {sc : SC} {Y : MI} {mc ms pc k n : Nat} {ls : List (Nat × Value)} {st : List Value} {ww : List PC} {K : Option Value → List PC → Prop} {i j : Nat} {x : Int32} (hd : decode (mBy Y) pc = .ok (.iload i, 2)) (hl0 : ls[j]? = some (i, .int x)) (h : GX sc Y mc ms (pc + 2) ls (.int x :: st) ww k n K) : GX sc Y mc ms (pc) ls (st) ww k n K := fun E hE p e R s m args below meth c H locs lh F hR hS hl hw hsl hst => lv_iload F.1.1 F.1.2.1 hd (loc_at hl hl0) (h E hE p e R s m args below meth c H locs lh F hR hS hl hw hsl (sc_c trivial hst))
theorem x_iloadn {sc : SC} {Y : MI} {mc ms pc k n : Nat} {ls : List (Nat × Value)} {st : List Value} {ww : List PC} {K : Option Value → List PC → Prop} {i : Fin 4} {i0 j : Nat} {x : Int32} (hd : decode (mBy Y) pc = .ok (.iload_n i, 1)) (hi : (i : Nat) = i0) (hl0 : ls[j]? = some (i0, .int x)) (h : GX sc Y mc ms (pc + 1) ls (.int x :: st) ww k n K) : GX sc Y mc ms (pc) ls (st) ww k n K := fun E hE p e R s m args below meth c H locs lh F hR hS hl hw hsl hst => lv_iload_n F.1.1 F.1.2.1 hd hi (loc_at hl hl0) (h E hE p e R s m args below meth c H locs lh F hR hS hl hw hsl (sc_c trivial hst))
theorem x_istore {sc : SC} {Y : MI} {mc ms pc k n : Nat} {ls : List (Nat × Value)} {st : List Value} {ww : List PC} {K : Option Value → List PC → Prop} {i : Nat} {x : Int32} {ls2 : List (Nat × Value)} (hd : decode (mBy Y) pc = .ok (.istore i, 2)) (hn : i < mLo Y) (he : stI i (.int x) ls = ls2) (h : GX sc Y mc ms (pc + 2) ls2 (st) ww k n K) : GX sc Y mc ms (pc) ls (.int x :: st) ww k n K := fun E hE p e R s m args below meth c H locs lh F hR hS hl hw hsl hst => lv_istore F.1.1 F.1.2.1 hd hl hn (gL_stI.trans (congrArg (gL E) he)) (fun lh2 hl2 => h E hE p e R s m args below meth c H locs lh2 F hR hS hl2 hw (ScL.stI he (sc_h hst) hsl) (sc_t hst))
theorem x_istoren {sc : SC} {Y : MI} {mc ms pc k n : Nat} {ls : List (Nat × Value)} {st : List Value} {ww : List PC} {K : Option Value → List PC → Prop} {i : Fin 4} {i0 : Nat} {x : Int32} {ls2 : List (Nat × Value)} (hd : decode (mBy Y) pc = .ok (.istore_n i, 1)) (hi : (i : Nat) = i0) (hn : i0 < mLo Y) (he : stI i0 (.int x) ls = ls2) (h : GX sc Y mc ms (pc + 1) ls2 (st) ww k n K) : GX sc Y mc ms (pc) ls (.int x :: st) ww k n K := fun E hE p e R s m args below meth c H locs lh F hR hS hl hw hsl hst => lv_istore_n F.1.1 F.1.2.1 hd hi hl hn (gL_stI.trans (congrArg (gL E) he)) (fun lh2 hl2 => h E hE p e R s m args below meth c H locs lh2 F hR hS hl2 hw (ScL.stI he (sc_h hst) hsl) (sc_t hst))
theorem x_dload {sc : SC} {Y : MI} {mc ms pc k n : Nat} {ls : List (Nat × Value)} {st : List Value} {ww : List PC} {K : Option Value → List PC → Prop} {i j : Nat} {x : UInt64} (hd : decode (mBy Y) pc = .ok (.dload i, 2)) (hl0 : ls[j]? = some (i, .double x)) (h : GX sc Y mc ms (pc + 2) ls (.double x :: st) ww k n K) : GX sc Y mc ms (pc) ls (st) ww k n K := fun E hE p e R s m args below meth c H locs lh F hR hS hl hw hsl hst => lv_dload F.1.1 F.1.2.1 hd (loc_at hl hl0) (h E hE p e R s m args below meth c H locs lh F hR hS hl hw hsl (sc_c trivial hst))
theorem x_dloadn {sc : SC} {Y : MI} {mc ms pc k n : Nat} {ls : List (Nat × Value)} {st : List Value} {ww : List PC} {K : Option Value → List PC → Prop} {i : Fin 4} {i0 j : Nat} {x : UInt64} (hd : decode (mBy Y) pc = .ok (.dload_n i, 1)) (hi : (i : Nat) = i0) (hl0 : ls[j]? = some (i0, .double x)) (h : GX sc Y mc ms (pc + 1) ls (.double x :: st) ww k n K) : GX sc Y mc ms (pc) ls (st) ww k n K := fun E hE p e R s m args below meth c H locs lh F hR hS hl hw hsl hst => lv_dload_n F.1.1 F.1.2.1 hd hi (loc_at hl hl0) (h E hE p e R s m args below meth c H locs lh F hR hS hl hw hsl (sc_c trivial hst))
theorem x_dstore {sc : SC} {Y : MI} {mc ms pc k n : Nat} {ls : List (Nat × Value)} {st : List Value} {ww : List PC} {K : Option Value → List PC → Prop} {i : Nat} {x : UInt64} {ls2 : List (Nat × Value)} (hd : decode (mBy Y) pc = .ok (.dstore i, 2)) (hn : i + 1 < mLo Y) (he : stL i (.double x) ls = ls2) (h : GX sc Y mc ms (pc + 2) ls2 (st) ww k n K) : GX sc Y mc ms (pc) ls (.double x :: st) ww k n K := fun E hE p e R s m args below meth c H locs lh F hR hS hl hw hsl hst => lv_dstore F.1.1 F.1.2.1 hd hl hn (gL_stL.trans (congrArg (gL E) he)) (fun lh2 hl2 => h E hE p e R s m args below meth c H locs lh2 F hR hS hl2 hw (ScL.stL he (sc_h hst) hsl) (sc_t hst))
theorem x_dstoren {sc : SC} {Y : MI} {mc ms pc k n : Nat} {ls : List (Nat × Value)} {st : List Value} {ww : List PC} {K : Option Value → List PC → Prop} {i : Fin 4} {i0 : Nat} {x : UInt64} {ls2 : List (Nat × Value)} (hd : decode (mBy Y) pc = .ok (.dstore_n i, 1)) (hi : (i : Nat) = i0) (hn : i0 + 1 < mLo Y) (he : stL i0 (.double x) ls = ls2) (h : GX sc Y mc ms (pc + 1) ls2 (st) ww k n K) : GX sc Y mc ms (pc) ls (.double x :: st) ww k n K := fun E hE p e R s m args below meth c H locs lh F hR hS hl hw hsl hst => lv_dstore_n F.1.1 F.1.2.1 hd hi hl hn (gL_stL.trans (congrArg (gL E) he)) (fun lh2 hl2 => h E hE p e R s m args below meth c H locs lh2 F hR hS hl2 hw (ScL.stL he (sc_h hst) hsl) (sc_t hst))
theorem x_aload {sc : SC} {Y : MI} {mc ms pc k n : Nat} {ls : List (Nat × Value)} {st : List Value} {ww : List PC} {K : Option Value → List PC → Prop} {i j : Nat} {x : Nat} (hd : decode (mBy Y) pc = .ok (.aload i, 2)) (hl0 : ls[j]? = some (i, .ref x)) (h : GX sc Y mc ms (pc + 2) ls (.ref x :: st) ww k n K) : GX sc Y mc ms (pc) ls (st) ww k n K := fun E hE p e R s m args below meth c H locs lh F hR hS hl hw hsl hst => lv_aload F.1.1 F.1.2.1 hd (loc_at hl hl0) (h E hE p e R s m args below meth c H locs lh F hR hS hl hw hsl (sc_c (hsl.at hl0) hst))
theorem x_aloadn {sc : SC} {Y : MI} {mc ms pc k n : Nat} {ls : List (Nat × Value)} {st : List Value} {ww : List PC} {K : Option Value → List PC → Prop} {i : Fin 4} {i0 j : Nat} {x : Nat} (hd : decode (mBy Y) pc = .ok (.aload_n i, 1)) (hi : (i : Nat) = i0) (hl0 : ls[j]? = some (i0, .ref x)) (h : GX sc Y mc ms (pc + 1) ls (.ref x :: st) ww k n K) : GX sc Y mc ms (pc) ls (st) ww k n K := fun E hE p e R s m args below meth c H locs lh F hR hS hl hw hsl hst => lv_aload_n F.1.1 F.1.2.1 hd hi (loc_at hl hl0) (h E hE p e R s m args below meth c H locs lh F hR hS hl hw hsl (sc_c (hsl.at hl0) hst))
theorem x_astore {sc : SC} {Y : MI} {mc ms pc k n : Nat} {ls : List (Nat × Value)} {st : List Value} {ww : List PC} {K : Option Value → List PC → Prop} {i : Nat} {x : Nat} {ls2 : List (Nat × Value)} (hd : decode (mBy Y) pc = .ok (.astore i, 2)) (hn : i < mLo Y) (he : stI i (.ref x) ls = ls2) (h : GX sc Y mc ms (pc + 2) ls2 (st) ww k n K) : GX sc Y mc ms (pc) ls (.ref x :: st) ww k n K := fun E hE p e R s m args below meth c H locs lh F hR hS hl hw hsl hst => lv_astore F.1.1 F.1.2.1 hd hl hn (gL_stI.trans (congrArg (gL E) he)) (fun lh2 hl2 => h E hE p e R s m args below meth c H locs lh2 F hR hS hl2 hw (ScL.stI he (sc_h hst) hsl) (sc_t hst))
theorem x_astoren {sc : SC} {Y : MI} {mc ms pc k n : Nat} {ls : List (Nat × Value)} {st : List Value} {ww : List PC} {K : Option Value → List PC → Prop} {i : Fin 4} {i0 : Nat} {x : Nat} {ls2 : List (Nat × Value)} (hd : decode (mBy Y) pc = .ok (.astore_n i, 1)) (hi : (i : Nat) = i0) (hn : i0 < mLo Y) (he : stI i0 (.ref x) ls = ls2) (h : GX sc Y mc ms (pc + 1) ls2 (st) ww k n K) : GX sc Y mc ms (pc) ls (.ref x :: st) ww k n K := fun E hE p e R s m args below meth c H locs lh F hR hS hl hw hsl hst => lv_astore_n F.1.1 F.1.2.1 hd hi hl hn (gL_stI.trans (congrArg (gL E) he)) (fun lh2 hl2 => h E hE p e R s m args below meth c H locs lh2 F hR hS hl2 hw (ScL.stI he (sc_h hst) hsl) (sc_t hst))
theorem x_iinc {sc : SC} {Y : MI} {mc ms pc k n : Nat} {ls : List (Nat × Value)} {st : List Value} {ww : List PC} {K : Option Value → List PC → Prop} {i j : Nat} {z : Int} {x v : Int32} {ls2 : List (Nat × Value)} (hd : decode (mBy Y) pc = .ok (.iinc i z, 3)) (hl0 : ls[j]? = some (i, .int x)) (hv : x + Int32.ofInt z = v) (hn : i < mLo Y) (he : stI i (.int v) ls = ls2) (h : GX sc Y mc ms (pc + 3) ls2 (st) ww k n K) : GX sc Y mc ms (pc) ls (st) ww k n K := fun E hE p e R s m args below meth c H locs lh F hR hS hl hw hsl hst => lv_iinc F.1.1 F.1.2.1 hd hl (k := j) (by unfold gL; rw [List.getElem?_map, hl0]; rfl) hv hn (gL_stI.trans (congrArg (gL E) he)) (fun lh2 hl2 => h E hE p e R s m args below meth c H locs lh2 F hR hS hl2 hw (ScL.stI he trivial hsl) hst)
theorem x_iadd {sc : SC} {Y : MI} {mc ms pc k n : Nat} {ls : List (Nat × Value)} {st : List Value} {ww : List PC} {K : Option Value → List PC → Prop} {x y : Int32} (hd : decode (mBy Y) pc = .ok (.iadd, 1)) (h : GX sc Y mc ms (pc + 1) ls (.int (x + y) :: st) ww k n K) : GX sc Y mc ms (pc) ls (.int y :: .int x :: st) ww k n K := fun E hE p e R s m args below meth c H locs lh F hR hS hl hw hsl hst => lv_iadd F.1.1 F.1.2.1 hd (h E hE p e R s m args below meth c H locs lh F hR hS hl hw hsl (sc_c trivial (sc_t (sc_t hst))))
theorem x_isub {sc : SC} {Y : MI} {mc ms pc k n : Nat} {ls : List (Nat × Value)} {st : List Value} {ww : List PC} {K : Option Value → List PC → Prop} {x y : Int32} (hd : decode (mBy Y) pc = .ok (.isub, 1)) (h : GX sc Y mc ms (pc + 1) ls (.int (x - y) :: st) ww k n K) : GX sc Y mc ms (pc) ls (.int y :: .int x :: st) ww k n K := fun E hE p e R s m args below meth c H locs lh F hR hS hl hw hsl hst => lv_isub F.1.1 F.1.2.1 hd (h E hE p e R s m args below meth c H locs lh F hR hS hl hw hsl (sc_c trivial (sc_t (sc_t hst))))
theorem x_imul {sc : SC} {Y : MI} {mc ms pc k n : Nat} {ls : List (Nat × Value)} {st : List Value} {ww : List PC} {K : Option Value → List PC → Prop} {x y : Int32} (hd : decode (mBy Y) pc = .ok (.imul, 1)) (h : GX sc Y mc ms (pc + 1) ls (.int (x * y) :: st) ww k n K) : GX sc Y mc ms (pc) ls (.int y :: .int x :: st) ww k n K := fun E hE p e R s m args below meth c H locs lh F hR hS hl hw hsl hst => lv_imul F.1.1 F.1.2.1 hd (h E hE p e R s m args below meth c H locs lh F hR hS hl hw hsl (sc_c trivial (sc_t (sc_t hst))))
theorem x_iand {sc : SC} {Y : MI} {mc ms pc k n : Nat} {ls : List (Nat × Value)} {st : List Value} {ww : List PC} {K : Option Value → List PC → Prop} {x y : Int32} (hd : decode (mBy Y) pc = .ok (.iand, 1)) (h : GX sc Y mc ms (pc + 1) ls (.int (x &&& y) :: st) ww k n K) : GX sc Y mc ms (pc) ls (.int y :: .int x :: st) ww k n K := fun E hE p e R s m args below meth c H locs lh F hR hS hl hw hsl hst => lv_iand F.1.1 F.1.2.1 hd (h E hE p e R s m args below meth c H locs lh F hR hS hl hw hsl (sc_c trivial (sc_t (sc_t hst))))
theorem x_ior {sc : SC} {Y : MI} {mc ms pc k n : Nat} {ls : List (Nat × Value)} {st : List Value} {ww : List PC} {K : Option Value → List PC → Prop} {x y : Int32} (hd : decode (mBy Y) pc = .ok (.ior, 1)) (h : GX sc Y mc ms (pc + 1) ls (.int (x ||| y) :: st) ww k n K) : GX sc Y mc ms (pc) ls (.int y :: .int x :: st) ww k n K := fun E hE p e R s m args below meth c H locs lh F hR hS hl hw hsl hst => lv_ior F.1.1 F.1.2.1 hd (h E hE p e R s m args below meth c H locs lh F hR hS hl hw hsl (sc_c trivial (sc_t (sc_t hst))))
theorem x_idiv {sc : SC} {Y : MI} {mc ms pc k n : Nat} {ls : List (Nat × Value)} {st : List Value} {ww : List PC} {K : Option Value → List PC → Prop} {x y : Int32} (hd : decode (mBy Y) pc = .ok (.idiv, 1)) (h0 : ¬ y = 0) (h : GX sc Y mc ms (pc + 1) ls (.int (x / y) :: st) ww k n K) : GX sc Y mc ms (pc) ls (.int y :: .int x :: st) ww k n K := fun E hE p e R s m args below meth c H locs lh F hR hS hl hw hsl hst => lv_idiv F.1.1 F.1.2.1 hd h0 (h E hE p e R s m args below meth c H locs lh F hR hS hl hw hsl (sc_c trivial (sc_t (sc_t hst))))
theorem x_irem {sc : SC} {Y : MI} {mc ms pc k n : Nat} {ls : List (Nat × Value)} {st : List Value} {ww : List PC} {K : Option Value → List PC → Prop} {x y : Int32} (hd : decode (mBy Y) pc = .ok (.irem, 1)) (h0 : ¬ y = 0) (h : GX sc Y mc ms (pc + 1) ls (.int (x - x / y * y) :: st) ww k n K) : GX sc Y mc ms (pc) ls (.int y :: .int x :: st) ww k n K := fun E hE p e R s m args below meth c H locs lh F hR hS hl hw hsl hst => lv_irem F.1.1 F.1.2.1 hd h0 (h E hE p e R s m args below meth c H locs lh F hR hS hl hw hsl (sc_c trivial (sc_t (sc_t hst))))
theorem x_ishl {sc : SC} {Y : MI} {mc ms pc k n : Nat} {ls : List (Nat × Value)} {st : List Value} {ww : List PC} {K : Option Value → List PC → Prop} {x y : Int32} (hd : decode (mBy Y) pc = .ok (.ishl, 1)) (h : GX sc Y mc ms (pc + 1) ls (.int (x <<< (y &&& 31)) :: st) ww k n K) : GX sc Y mc ms (pc) ls (.int y :: .int x :: st) ww k n K := fun E hE p e R s m args below meth c H locs lh F hR hS hl hw hsl hst => lv_ishl F.1.1 F.1.2.1 hd (h E hE p e R s m args below meth c H locs lh F hR hS hl hw hsl (sc_c trivial (sc_t (sc_t hst))))
theorem x_ishr {sc : SC} {Y : MI} {mc ms pc k n : Nat} {ls : List (Nat × Value)} {st : List Value} {ww : List PC} {K : Option Value → List PC → Prop} {x y : Int32} (hd : decode (mBy Y) pc = .ok (.ishr, 1)) (h : GX sc Y mc ms (pc + 1) ls (.int (x >>> (y &&& 31)) :: st) ww k n K) : GX sc Y mc ms (pc) ls (.int y :: .int x :: st) ww k n K := fun E hE p e R s m args below meth c H locs lh F hR hS hl hw hsl hst => lv_ishr F.1.1 F.1.2.1 hd (h E hE p e R s m args below meth c H locs lh F hR hS hl hw hsl (sc_c trivial (sc_t (sc_t hst))))
theorem x_iushr {sc : SC} {Y : MI} {mc ms pc k n : Nat} {ls : List (Nat × Value)} {st : List Value} {ww : List PC} {K : Option Value → List PC → Prop} {x y v : Int32} (hd : decode (mBy Y) pc = .ok (.iushr, 1)) (hv : (x.toUInt32 >>> (y.toUInt32 &&& Int32.toUInt32 31)).toInt32 = v) (h : GX sc Y mc ms (pc + 1) ls (.int v :: st) ww k n K) : GX sc Y mc ms (pc) ls (.int y :: .int x :: st) ww k n K := fun E hE p e R s m args below meth c H locs lh F hR hS hl hw hsl hst => lv_iushr F.1.1 F.1.2.1 hd hv (h E hE p e R s m args below meth c H locs lh F hR hS hl hw hsl (sc_c trivial (sc_t (sc_t hst))))
theorem x_ineg {sc : SC} {Y : MI} {mc ms pc k n : Nat} {ls : List (Nat × Value)} {st : List Value} {ww : List PC} {K : Option Value → List PC → Prop} {x : Int32} (hd : decode (mBy Y) pc = .ok (.ineg, 1)) (h : GX sc Y mc ms (pc + 1) ls (.int (-x) :: st) ww k n K) : GX sc Y mc ms (pc) ls (.int x :: st) ww k n K := fun E hE p e R s m args below meth c H locs lh F hR hS hl hw hsl hst => lv_ineg F.1.1 F.1.2.1 hd (h E hE p e R s m args below meth c H locs lh F hR hS hl hw hsl (sc_c trivial (sc_t hst)))
theorem x_i2b {sc : SC} {Y : MI} {mc ms pc k n : Nat} {ls : List (Nat × Value)} {st : List Value} {ww : List PC} {K : Option Value → List PC → Prop} {x v : Int32} (hd : decode (mBy Y) pc = .ok (.i2b, 1)) (hv : x.toInt8.toInt32 = v) (h : GX sc Y mc ms (pc + 1) ls (.int v :: st) ww k n K) : GX sc Y mc ms (pc) ls (.int x :: st) ww k n K := fun E hE p e R s m args below meth c H locs lh F hR hS hl hw hsl hst => lv_i2b F.1.1 F.1.2.1 hd hv (h E hE p e R s m args below meth c H locs lh F hR hS hl hw hsl (sc_c trivial (sc_t hst)))
theorem x_i2d {sc : SC} {Y : MI} {mc ms pc k n : Nat} {ls : List (Nat × Value)} {st : List Value} {ww : List PC} {K : Option Value → List PC → Prop} {x : Int32} (hd : decode (mBy Y) pc = .ok (.i2d, 1)) (h : GX sc Y mc ms (pc + 1) ls (.double (FP.i2d x) :: st) ww k n K) : GX sc Y mc ms (pc) ls (.int x :: st) ww k n K := fun E hE p e R s m args below meth c H locs lh F hR hS hl hw hsl hst => lv_i2d F.1.1 F.1.2.1 hd (h E hE p e R s m args below meth c H locs lh F hR hS hl hw hsl (sc_c trivial (sc_t hst)))
theorem x_ddiv {sc : SC} {Y : MI} {mc ms pc k n : Nat} {ls : List (Nat × Value)} {st : List Value} {ww : List PC} {K : Option Value → List PC → Prop} {x y : UInt64} (hd : decode (mBy Y) pc = .ok (.ddiv, 1)) (h0 : vf_n64 (FP.ddiv x y)) (h : GX sc Y mc ms (pc + 1) ls (.double (FP.ddiv x y) :: st) ww k n K) : GX sc Y mc ms (pc) ls (.double y :: .double x :: st) ww k n K := fun E hE p e R s m args below meth c H locs lh F hR hS hl hw hsl hst => lv_ddiv F.1.1 F.1.2.1 hd h0 (h E hE p e R s m args below meth c H locs lh F hR hS hl hw hsl (sc_c trivial (sc_t (sc_t hst))))
theorem x_dcmp {sc : SC} {Y : MI} {mc ms pc k n : Nat} {ls : List (Nat × Value)} {st : List Value} {ww : List PC} {K : Option Value → List PC → Prop} {x y : UInt64} {op : CmpOp} (hd : decode (mBy Y) pc = .ok (.dcmp op, 1)) (h : GX sc Y mc ms (pc + 1) ls (.int (Op.cmpValue (FP.dcmp x y) op) :: st) ww k n K) : GX sc Y mc ms (pc) ls (.double y :: .double x :: st) ww k n K := fun E hE p e R s m args below meth c H locs lh F hR hS hl hw hsl hst => lv_dcmp F.1.1 F.1.2.1 hd (h E hE p e R s m args below meth c H locs lh F hR hS hl hw hsl (sc_c trivial (sc_t (sc_t hst))))
theorem x_dup {sc : SC} {Y : MI} {mc ms pc k n : Nat} {ls : List (Nat × Value)} {st : List Value} {ww : List PC} {K : Option Value → List PC → Prop} {v : Value} (hd : decode (mBy Y) pc = .ok (.dup, 1)) (hc : v.category = 1) (h : GX sc Y mc ms (pc + 1) ls (v :: v :: st) ww k n K) : GX sc Y mc ms (pc) ls (v :: st) ww k n K := fun E hE p e R s m args below meth c H locs lh F hR hS hl hw hsl hst => lv_dup F.1.1 F.1.2.1 hd ((gV_cat E v).trans hc) (h E hE p e R s m args below meth c H locs lh F hR hS hl hw hsl (sc_c (sc_h hst) (sc_c (sc_h hst) (sc_t hst))))
theorem x_dup2 {sc : SC} {Y : MI} {mc ms pc k n : Nat} {ls : List (Nat × Value)} {st : List Value} {ww : List PC} {K : Option Value → List PC → Prop} {v w : Value} (hd : decode (mBy Y) pc = .ok (.dup2, 1)) (hc : v.category = 1) (hc2 : w.category = 1) (h : GX sc Y mc ms (pc + 1) ls (v :: w :: v :: w :: st) ww k n K) : GX sc Y mc ms (pc) ls (v :: w :: st) ww k n K := fun E hE p e R s m args below meth c H locs lh F hR hS hl hw hsl hst => lv_dup2_11 F.1.1 F.1.2.1 hd ((gV_cat E _).trans hc) ((gV_cat E _).trans hc2) (h E hE p e R s m args below meth c H locs lh F hR hS hl hw hsl (sc_c (sc_h hst) (sc_c (sc_h (sc_t hst)) (sc_c (sc_h hst) (sc_c (sc_h (sc_t hst)) (sc_t (sc_t hst)))))))
theorem x_pop2 {sc : SC} {Y : MI} {mc ms pc k n : Nat} {ls : List (Nat × Value)} {st : List Value} {ww : List PC} {K : Option Value → List PC → Prop} {v : Value} (hd : decode (mBy Y) pc = .ok (.pop2, 1)) (hc : v.category = 2) (h : GX sc Y mc ms (pc + 1) ls (st) ww k n K) : GX sc Y mc ms (pc) ls (v :: st) ww k n K := fun E hE p e R s m args below meth c H locs lh F hR hS hl hw hsl hst => lv_pop2_2 F.1.1 F.1.2.1 hd ((gV_cat E v).trans hc) (h E hE p e R s m args below meth c H locs lh F hR hS hl hw hsl (sc_t hst))
theorem x_pop {sc : SC} {Y : MI} {mc ms pc k n : Nat} {ls : List (Nat × Value)} {st : List Value} {ww : List PC} {K : Option Value → List PC → Prop} {v : Value} (hd : decode (mBy Y) pc = .ok (.pop, 1)) (hc : v.category = 1) (h : GX sc Y mc ms (pc + 1) ls (st) ww k n K) : GX sc Y mc ms (pc) ls (v :: st) ww k n K := fun E hE p e R s m args below meth c H locs lh F hR hS hl hw hsl hst => lv_pop F.1.1 F.1.2.1 hd ((gV_cat E v).trans hc) (h E hE p e R s m args below meth c H locs lh F hR hS hl hw hsl (sc_t hst))
theorem x_goto {sc : SC} {Y : MI} {mc ms pc k n : Nat} {ls : List (Nat × Value)} {st : List Value} {ww : List PC} {K : Option Value → List PC → Prop} {off : Int} {tgt : Nat} (hd : decode (mBy Y) pc = .ok (.goto off, 3)) (ht : (pc : Int) + off = (tgt : Int)) (h : GX sc Y mc ms (tgt) ls (st) ww k n K) : GX sc Y mc ms (pc) ls (st) ww k n K := fun E hE p e R s m args below meth c H locs lh F hR hS hl hw hsl hst => lv_goto F.1.1 F.1.2.1 hd ht (h E hE p e R s m args below meth c H locs lh F hR hS hl hw hsl hst)
theorem x_icmp_eq {sc : SC} {Y : MI} {mc ms pc k n : Nat} {ls : List (Nat × Value)} {st : List Value} {ww : List PC} {K : Option Value → List PC → Prop} {x y : Int32} {off : Int} {tgt : Nat} (hd : decode (mBy Y) pc = .ok (.if_icmp .eq off, 3)) (ht : (pc : Int) + off = (tgt : Int)) (h1 : x = y → GX sc Y mc ms (tgt) ls (st) ww k n K) (h2 : ¬ (x = y) → GX sc Y mc ms (pc + 3) ls (st) ww k n K) : GX sc Y mc ms (pc) ls (.int y :: .int x :: st) ww k n K := fun E hE p e R s m args below meth c H locs lh F hR hS hl hw hsl hst => lv_icmp_eq F.1.1 F.1.2.1 hd ht (fun hc => h1 hc E hE p e R s m args below meth c H locs lh F hR hS hl hw hsl (sc_t (sc_t hst))) (fun hc => h2 hc E hE p e R s m args below meth c H locs lh F hR hS hl hw hsl (sc_t (sc_t hst)))
theorem x_if_eq {sc : SC} {Y : MI} {mc ms pc k n : Nat} {ls : List (Nat × Value)} {st : List Value} {ww : List PC} {K : Option Value → List PC → Prop} {x : Int32} {off : Int} {tgt : Nat} (hd : decode (mBy Y) pc = .ok (.ifCond .eq off, 3)) (ht : (pc : Int) + off = (tgt : Int)) (h1 : x = 0 → GX sc Y mc ms (tgt) ls (st) ww k n K) (h2 : ¬ (x = 0) → GX sc Y mc ms (pc + 3) ls (st) ww k n K) : GX sc Y mc ms (pc) ls (.int x :: st) ww k n K := fun E hE p e R s m args below meth c H locs lh F hR hS hl hw hsl hst => lv_if_eq F.1.1 F.1.2.1 hd ht (fun hc => h1 hc E hE p e R s m args below meth c H locs lh F hR hS hl hw hsl (sc_t hst)) (fun hc => h2 hc E hE p e R s m args below meth c H locs lh F hR hS hl hw hsl (sc_t hst))
theorem x_icmp_ne {sc : SC} {Y : MI} {mc ms pc k n : Nat} {ls : List (Nat × Value)} {st : List Value} {ww : List PC} {K : Option Value → List PC → Prop} {x y : Int32} {off : Int} {tgt : Nat} (hd : decode (mBy Y) pc = .ok (.if_icmp .ne off, 3)) (ht : (pc : Int) + off = (tgt : Int)) (h1 : ¬ x = y → GX sc Y mc ms (tgt) ls (st) ww k n K) (h2 : x = y → GX sc Y mc ms (pc + 3) ls (st) ww k n K) : GX sc Y mc ms (pc) ls (.int y :: .int x :: st) ww k n K := fun E hE p e R s m args below meth c H locs lh F hR hS hl hw hsl hst => lv_icmp_ne F.1.1 F.1.2.1 hd ht (fun hc => h1 hc E hE p e R s m args below meth c H locs lh F hR hS hl hw hsl (sc_t (sc_t hst))) (fun hc => h2 hc E hE p e R s m args below meth c H locs lh F hR hS hl hw hsl (sc_t (sc_t hst)))
theorem x_if_ne {sc : SC} {Y : MI} {mc ms pc k n : Nat} {ls : List (Nat × Value)} {st : List Value} {ww : List PC} {K : Option Value → List PC → Prop} {x : Int32} {off : Int} {tgt : Nat} (hd : decode (mBy Y) pc = .ok (.ifCond .ne off, 3)) (ht : (pc : Int) + off = (tgt : Int)) (h1 : ¬ x = 0 → GX sc Y mc ms (tgt) ls (st) ww k n K) (h2 : x = 0 → GX sc Y mc ms (pc + 3) ls (st) ww k n K) : GX sc Y mc ms (pc) ls (.int x :: st) ww k n K := fun E hE p e R s m args below meth c H locs lh F hR hS hl hw hsl hst => lv_if_ne F.1.1 F.1.2.1 hd ht (fun hc => h1 hc E hE p e R s m args below meth c H locs lh F hR hS hl hw hsl (sc_t hst)) (fun hc => h2 hc E hE p e R s m args below meth c H locs lh F hR hS hl hw hsl (sc_t hst))
theorem x_icmp_lt {sc : SC} {Y : MI} {mc ms pc k n : Nat} {ls : List (Nat × Value)} {st : List Value} {ww : List PC} {K : Option Value → List PC → Prop} {x y : Int32} {off : Int} {tgt : Nat} (hd : decode (mBy Y) pc = .ok (.if_icmp .lt off, 3)) (ht : (pc : Int) + off = (tgt : Int)) (h1 : x < y → GX sc Y mc ms (tgt) ls (st) ww k n K) (h2 : ¬ (x < y) → GX sc Y mc ms (pc + 3) ls (st) ww k n K) : GX sc Y mc ms (pc) ls (.int y :: .int x :: st) ww k n K := fun E hE p e R s m args below meth c H locs lh F hR hS hl hw hsl hst => lv_icmp_lt F.1.1 F.1.2.1 hd ht (fun hc => h1 hc E hE p e R s m args below meth c H locs lh F hR hS hl hw hsl (sc_t (sc_t hst))) (fun hc => h2 hc E hE p e R s m args below meth c H locs lh F hR hS hl hw hsl (sc_t (sc_t hst)))
theorem x_if_lt {sc : SC} {Y : MI} {mc ms pc k n : Nat} {ls : List (Nat × Value)} {st : List Value} {ww : List PC} {K : Option Value → List PC → Prop} {x : Int32} {off : Int} {tgt : Nat} (hd : decode (mBy Y) pc = .ok (.ifCond .lt off, 3)) (ht : (pc : Int) + off = (tgt : Int)) (h1 : x < 0 → GX sc Y mc ms (tgt) ls (st) ww k n K) (h2 : ¬ (x < 0) → GX sc Y mc ms (pc + 3) ls (st) ww k n K) : GX sc Y mc ms (pc) ls (.int x :: st) ww k n K := fun E hE p e R s m args below meth c H locs lh F hR hS hl hw hsl hst => lv_if_lt F.1.1 F.1.2.1 hd ht (fun hc => h1 hc E hE p e R s m args below meth c H locs lh F hR hS hl hw hsl (sc_t hst)) (fun hc => h2 hc E hE p e R s m args below meth c H locs lh F hR hS hl hw hsl (sc_t hst))
theorem x_icmp_ge {sc : SC} {Y : MI} {mc ms pc k n : Nat} {ls : List (Nat × Value)} {st : List Value} {ww : List PC} {K : Option Value → List PC → Prop} {x y : Int32} {off : Int} {tgt : Nat} (hd : decode (mBy Y) pc = .ok (.if_icmp .ge off, 3)) (ht : (pc : Int) + off = (tgt : Int)) (h1 : y ≤ x → GX sc Y mc ms (tgt) ls (st) ww k n K) (h2 : ¬ (y ≤ x) → GX sc Y mc ms (pc + 3) ls (st) ww k n K) : GX sc Y mc ms (pc) ls (.int y :: .int x :: st) ww k n K := fun E hE p e R s m args below meth c H locs lh F hR hS hl hw hsl hst => lv_icmp_ge F.1.1 F.1.2.1 hd ht (fun hc => h1 hc E hE p e R s m args below meth c H locs lh F hR hS hl hw hsl (sc_t (sc_t hst))) (fun hc => h2 hc E hE p e R s m args below meth c H locs lh F hR hS hl hw hsl (sc_t (sc_t hst)))
theorem x_if_ge {sc : SC} {Y : MI} {mc ms pc k n : Nat} {ls : List (Nat × Value)} {st : List Value} {ww : List PC} {K : Option Value → List PC → Prop} {x : Int32} {off : Int} {tgt : Nat} (hd : decode (mBy Y) pc = .ok (.ifCond .ge off, 3)) (ht : (pc : Int) + off = (tgt : Int)) (h1 : 0 ≤ x → GX sc Y mc ms (tgt) ls (st) ww k n K) (h2 : ¬ (0 ≤ x) → GX sc Y mc ms (pc + 3) ls (st) ww k n K) : GX sc Y mc ms (pc) ls (.int x :: st) ww k n K := fun E hE p e R s m args below meth c H locs lh F hR hS hl hw hsl hst => lv_if_ge F.1.1 F.1.2.1 hd ht (fun hc => h1 hc E hE p e R s m args below meth c H locs lh F hR hS hl hw hsl (sc_t hst)) (fun hc => h2 hc E hE p e R s m args below meth c H locs lh F hR hS hl hw hsl (sc_t hst))
theorem x_icmp_gt {sc : SC} {Y : MI} {mc ms pc k n : Nat} {ls : List (Nat × Value)} {st : List Value} {ww : List PC} {K : Option Value → List PC → Prop} {x y : Int32} {off : Int} {tgt : Nat} (hd : decode (mBy Y) pc = .ok (.if_icmp .gt off, 3)) (ht : (pc : Int) + off = (tgt : Int)) (h1 : y < x → GX sc Y mc ms (tgt) ls (st) ww k n K) (h2 : ¬ (y < x) → GX sc Y mc ms (pc + 3) ls (st) ww k n K) : GX sc Y mc ms (pc) ls (.int y :: .int x :: st) ww k n K := fun E hE p e R s m args below meth c H locs lh F hR hS hl hw hsl hst => lv_icmp_gt F.1.1 F.1.2.1 hd ht (fun hc => h1 hc E hE p e R s m args below meth c H locs lh F hR hS hl hw hsl (sc_t (sc_t hst))) (fun hc => h2 hc E hE p e R s m args below meth c H locs lh F hR hS hl hw hsl (sc_t (sc_t hst)))
theorem x_if_gt {sc : SC} {Y : MI} {mc ms pc k n : Nat} {ls : List (Nat × Value)} {st : List Value} {ww : List PC} {K : Option Value → List PC → Prop} {x : Int32} {off : Int} {tgt : Nat} (hd : decode (mBy Y) pc = .ok (.ifCond .gt off, 3)) (ht : (pc : Int) + off = (tgt : Int)) (h1 : 0 < x → GX sc Y mc ms (tgt) ls (st) ww k n K) (h2 : ¬ (0 < x) → GX sc Y mc ms (pc + 3) ls (st) ww k n K) : GX sc Y mc ms (pc) ls (.int x :: st) ww k n K := fun E hE p e R s m args below meth c H locs lh F hR hS hl hw hsl hst => lv_if_gt F.1.1 F.1.2.1 hd ht (fun hc => h1 hc E hE p e R s m args below meth c H locs lh F hR hS hl hw hsl (sc_t hst)) (fun hc => h2 hc E hE p e R s m args below meth c H locs lh F hR hS hl hw hsl (sc_t hst))
theorem x_icmp_le {sc : SC} {Y : MI} {mc ms pc k n : Nat} {ls : List (Nat × Value)} {st : List Value} {ww : List PC} {K : Option Value → List PC → Prop} {x y : Int32} {off : Int} {tgt : Nat} (hd : decode (mBy Y) pc = .ok (.if_icmp .le off, 3)) (ht : (pc : Int) + off = (tgt : Int)) (h1 : x ≤ y → GX sc Y mc ms (tgt) ls (st) ww k n K) (h2 : ¬ (x ≤ y) → GX sc Y mc ms (pc + 3) ls (st) ww k n K) : GX sc Y mc ms (pc) ls (.int y :: .int x :: st) ww k n K := fun E hE p e R s m args below meth c H locs lh F hR hS hl hw hsl hst => lv_icmp_le F.1.1 F.1.2.1 hd ht (fun hc => h1 hc E hE p e R s m args below meth c H locs lh F hR hS hl hw hsl (sc_t (sc_t hst))) (fun hc => h2 hc E hE p e R s m args below meth c H locs lh F hR hS hl hw hsl (sc_t (sc_t hst)))
theorem x_if_le {sc : SC} {Y : MI} {mc ms pc k n : Nat} {ls : List (Nat × Value)} {st : List Value} {ww : List PC} {K : Option Value → List PC → Prop} {x : Int32} {off : Int} {tgt : Nat} (hd : decode (mBy Y) pc = .ok (.ifCond .le off, 3)) (ht : (pc : Int) + off = (tgt : Int)) (h1 : x ≤ 0 → GX sc Y mc ms (tgt) ls (st) ww k n K) (h2 : ¬ (x ≤ 0) → GX sc Y mc ms (pc + 3) ls (st) ww k n K) : GX sc Y mc ms (pc) ls (.int x :: st) ww k n K := fun E hE p e R s m args below meth c H locs lh F hR hS hl hw hsl hst => lv_if_le F.1.1 F.1.2.1 hd ht (fun hc => h1 hc E hE p e R s m args below meth c H locs lh F hR hS hl hw hsl (sc_t hst)) (fun hc => h2 hc E hE p e R s m args below meth c H locs lh F hR hS hl hw hsl (sc_t hst))
theorem x_tableIn {sc : SC} {Y : MI} {mc ms pc k n : Nat} {ls : List (Nat × Value)} {st : List Value} {ww : List PC} {K : Option Value → List PC → Prop} {dflt lo hi : Int} {offs : Array Int} {len : Nat} {x : Int32} {off : Int} {tgt : Nat} (hd : decode (mBy Y) pc = .ok (.tableswitch dflt lo hi offs, len)) (h1 : ¬ x.toInt < lo) (h2 : ¬ hi < x.toInt) (ho : offs[(x.toInt - lo).toNat]? = some off) (ht : (pc : Int) + off = (tgt : Int)) (h : GX sc Y mc ms (tgt) ls (st) ww k n K) : GX sc Y mc ms (pc) ls (.int x :: st) ww k n K := fun E hE p e R s m args below meth c H locs lh F hR hS hl hw hsl hst => lv_tableIn F.1.1 F.1.2.1 hd h1 h2 ho ht (h E hE p e R s m args below meth c H locs lh F hR hS hl hw hsl (sc_t hst))
theorem x_tableOut {sc : SC} {Y : MI} {mc ms pc k n : Nat} {ls : List (Nat × Value)} {st : List Value} {ww : List PC} {K : Option Value → List PC → Prop} {dflt lo hi : Int} {offs : Array Int} {len : Nat} {x : Int32} {tgt : Nat} (hd : decode (mBy Y) pc = .ok (.tableswitch dflt lo hi offs, len)) (h0 : x.toInt < lo ∨ hi < x.toInt) (ht : (pc : Int) + dflt = (tgt : Int)) (h : GX sc Y mc ms (tgt) ls (st) ww k n K) : GX sc Y mc ms (pc) ls (.int x :: st) ww k n K := fun E hE p e R s m args below meth c H locs lh F hR hS hl hw hsl hst => lv_tableOut F.1.1 F.1.2.1 hd h0 ht (h E hE p e R s m args below meth c H locs lh F hR hS hl hw hsl (sc_t hst))
theorem x_lookup {sc : SC} {Y : MI} {mc ms pc k n : Nat} {ls : List (Nat × Value)} {st : List Value} {ww : List PC} {K : Option Value → List PC → Prop} {dflt : Int} {ps : Array (Int × Int)} {len : Nat} {x : Int32} {off : Int} {tgt : Nat} (hd : decode (mBy Y) pc = .ok (.lookupswitch dflt ps, len)) (hp : (ps.toList.zip (ps.toList.drop 1)).all (fun (a, next) => a.1 < next.1) = true) (ho : Op.lookupswitch.offset ps.toList dflt x.toInt = off) (ht : (pc : Int) + off = (tgt : Int)) (h : GX sc Y mc ms (tgt) ls (st) ww k n K) : GX sc Y mc ms (pc) ls (.int x :: st) ww k n K := fun E hE p e R s m args below meth c H locs lh F hR hS hl hw hsl hst => lv_lookup F.1.1 F.1.2.1 hd hp ho ht (h E hE p e R s m args below meth c H locs lh F hR hS hl hw hsl (sc_t hst))
theorem sc_set {w : List PC} {vs : List Value} {f : Nat} {v : Value} (h : ScV w vs) (hv : Sc w v) : ScV w (vs.set f v) := fun x hx => by
  rcases List.mem_or_eq_of_mem_set hx with h1 | h1
  · exact h x h1
  · rw [h1]; exact hv
theorem x_getfield {sc : SC} {Y : MI} {mc ms pc k n : Nat} {ls : List (Nat × Value)} {st : List Value} {ww : List PC} {K : Option Value → List PC → Prop} {i a ci f : Nat} {vs : List Value} {v : Value} (hd : decode (mBy Y) pc = .ok (.getfield i, 3))
    (hwf : Cond.fieldLink (mNm Y).cls i (TC ci f).1 (TC ci f).2.1 (TC ci f).2.2.1 ∈ gtbl) (hci : ci < 18) (hf : f < NC ci) (ha : a < XB) (hc : ww[a]? = some (ci, vs)) (hv : vs[f]? = some v)
    (h : GX sc Y mc ms (pc + 3) ls (v :: st) ww k n K) : GX sc Y mc ms pc ls (.ref a :: st) ww k n K := by
  intro E hE p e R s m args below meth c H locs lh F hR hS hl hw hsl hst
  have e1 : gV E (.ref a) = .ref (eP E a) := congrArg Value.ref (gA_in ha)
  show W p (eL E) e R s m args below meth c H locs k n _ (F0 m pc lh (gV E (.ref a) :: st.map (gV E)))
  rw [e1]
  have h1 := cW_at (E := E) hc (Nat.lt_trans hci (by decide))
  rw [cE_obj (by omega)] at h1
  exact va_get (D := eD E) (ci := ci) (v := gV E v) (C := RC ci) (T := TC ci) (N := NC ci) F.1.1 F.1.2.1 F.1.2.2.2.2 (uwC ci hci) F.1.2.2.2.1 F.2.2.2.1.1 hR.1 (cX ww a) h1 (CL_at ci hci) f hf (F.1.2.2.2.2 _ hwf) (fun _ h9 => h9) (gV_at hv) hd (h E hE p e R s m args below meth c H locs lh F hR hS hl hw hsl (sc_c ((hw _ (List.mem_of_getElem? hc)) _ (List.mem_of_getElem? hv)) (sc_t hst)))

/-- after a store: the world with the cell a changed -/
theorem x_putfield {sc : SC} {Y : MI} {mc ms pc k n : Nat} {ls : List (Nat × Value)} {st : List Value} {ww : List PC} {K : Option Value → List PC → Prop} {i a ci f : Nat} {vs : List Value} {v : Value} (hd : decode (mBy Y) pc = .ok (.putfield i, 3))
    (hwf : Cond.fieldLink (mNm Y).cls i (TC ci f).1 (TC ci f).2.1 (TC ci f).2.2.1 ∈ gtbl) (hci : ci < 18) (hf : f < NC ci) (hfin : (TC ci f).2.2.2 = false) (hty : okV (TYC ci f) v) (ha : a < XB) (hc : ww[a]? = some (ci, vs)) (hl0 : f < vs.length)
    (h : GX sc Y mc ms (pc + 3) ls st (ww.set a (ci, vs.set f v)) k n K) : GX sc Y mc ms pc ls (v :: .ref a :: st) ww k n K := by
  intro E hE p e R s m args below meth c H locs lh F hR hS hl hw hsl hst
  have e1 : gV E (.ref a) = .ref (eP E a) := congrArg Value.ref (gA_in ha)
  show W p (eL E) e R s m args below meth c H locs k n _ (F0 m pc lh (gV E v :: gV E (.ref a) :: st.map (gV E)))
  rw [e1]
  have h1 := cW_at (E := E) hc (Nat.lt_trans hci (by decide))
  rw [cE_obj (by omega)] at h1
  refine va_put (D := eD E) (ci := ci) (v := gV E v) (ty := TYC ci f) (C := RC ci) (T := TC ci) (N := NC ci) F.1.1 F.1.2.1 F.1.2.2.2.2 (uwC ci hci) (TYC ci) (tyC ci hci) (nmC ci hci) F.1.2.2.2.1 F.2.2.2.1.1 hR.1 hR.2 hS (cX ww a) h1 (CL_at ci hci) f hf (F.1.2.2.2.2 _ hwf) (fun _ h9 => h9) hfin (tyC ci hci f hf) (okV_g hty).1 (okV_g hty).2 (by rw [List.length_map]; exact hl0) hd (fun H1 locs1 hP1 hD1 hS1 => ?_)
  refine W.up (MQ.up (QX.up Ex.rfl' (Gr.set hc (Nat.lt_trans hci (by decide))))) (h E hE p e R s m args below meth c H1 locs1 lh F ?_ hS1 hl (hw.set hc (Nat.lt_trans hci (by decide)) (sc_set (hw _ (List.mem_of_getElem? hc)) (sc_h hst))) (hsl.gr (Gr.set hc (Nat.lt_trans hci (by decide)))) (ScV.gr (Gr.set hc (Nat.lt_trans hci (by decide))) (sc_t (sc_t hst))))
  refine Rep.setq (S := (ww, false)) (c' := (ci, vs.set f v)) ?_ hR.2 hc (Nat.lt_trans hci (by decide)) (Nat.lt_trans hci (by decide))
  rw [cE_obj (by omega), ← gV_set]
  exact hP1
theorem x_putfinal {sc : SC} {Y : MI} {mc ms pc k n : Nat} {ls : List (Nat × Value)} {st : List Value} {ww : List PC} {K : Option Value → List PC → Prop} {i a ci f : Nat} {vs : List Value} {v : Value} (hd : decode (mBy Y) pc = .ok (.putfield i, 3))
    (hwf : Cond.fieldLink (mNm Y).cls i (TC ci f).1 (TC ci f).2.1 (TC ci f).2.2.1 ∈ gtbl) (hci : ci < 18) (hf : f < NC ci) (hfin : (TC ci f).2.2.2 = true) (hin : (mNm Y).name = "<init>") (hdc : (TC ci f).1 = (mNm Y).cls) (hty : okV (TYC ci f) v) (ha : a < XB) (hc : ww[a]? = some (ci, vs)) (hl0 : f < vs.length)
    (h : GX sc Y mc ms (pc + 3) ls st (ww.set a (ci, vs.set f v)) k n K) : GX sc Y mc ms pc ls (v :: .ref a :: st) ww k n K := by
  intro E hE p e R s m args below meth c H locs lh F hR hS hl hw hsl hst
  have e1 : gV E (.ref a) = .ref (eP E a) := congrArg Value.ref (gA_in ha)
  show W p (eL E) e R s m args below meth c H locs k n _ (F0 m pc lh (gV E v :: gV E (.ref a) :: st.map (gV E)))
  rw [e1]
  have h1 := cW_at (E := E) hc (Nat.lt_trans hci (by decide))
  rw [cE_obj (by omega)] at h1
  refine va_putF (D := eD E) (ci := ci) (v := gV E v) (ty := TYC ci f) (C := RC ci) (T := TC ci) (N := NC ci) F.1.1 F.1.2.1 F.1.2.2.2.2 (uwC ci hci) (TYC ci) (tyC ci hci) (nmC ci hci) F.1.2.2.2.1 F.2.2.2.1.1 hR.1 hR.2 hS (cX ww a) h1 (CL_at ci hci) f hf (F.1.2.2.2.2 _ hwf) (fun _ h9 => h9) hfin (F.2.1.2.2.1.trans hin) hdc (tyC ci hci f hf) (okV_g hty).1 (okV_g hty).2 (by rw [List.length_map]; exact hl0) hd (fun H1 locs1 hP1 hD1 hS1 => ?_)
  refine W.up (MQ.up (QX.up Ex.rfl' (Gr.set hc (Nat.lt_trans hci (by decide))))) (h E hE p e R s m args below meth c H1 locs1 lh F ?_ hS1 hl (hw.set hc (Nat.lt_trans hci (by decide)) (sc_set (hw _ (List.mem_of_getElem? hc)) (sc_h hst))) (hsl.gr (Gr.set hc (Nat.lt_trans hci (by decide)))) (ScV.gr (Gr.set hc (Nat.lt_trans hci (by decide))) (sc_t (sc_t hst))))
  refine Rep.setq (S := (ww, false)) (c' := (ci, vs.set f v)) ?_ hR.2 hc (Nat.lt_trans hci (by decide)) (Nat.lt_trans hci (by decide))
  rw [cE_obj (by omega), ← gV_set]
  exact hP1
theorem x_alen {sc : SC} {Y : MI} {mc ms pc k n : Nat} {ls : List (Nat × Value)} {st : List Value} {ww : List PC} {K : Option Value → List PC → Prop} {a t : Nat} {vs : List Value} {v : Int32} (hd : decode (mBy Y) pc = .ok (.arraylength, 1)) (ht : t < 6) (ha : a < XB) (hc : ww[a]? = some (100 + t, vs)) (hv : Int32.ofNat vs.length = v)
    (h : GX sc Y mc ms (pc + 1) ls (.int v :: st) ww k n K) : GX sc Y mc ms pc ls (.ref a :: st) ww k n K := by
  intro E hE p e R s m args below meth c H locs lh F hR hS hl hw hsl hst
  have e1 : gV E (.ref a) = .ref (eP E a) := congrArg Value.ref (gA_in ha)
  show W p (eL E) e R s m args below meth c H locs k n _ (F0 m pc lh (gV E (.ref a) :: st.map (gV E)))
  rw [e1]
  exact va_alen F.1.1 F.1.2.1 F.2.2.2.1.1 hR.1 (cX ww a) t (arr_at hc ht) (eT_at t ht) hv hd (h E hE p e R s m args below meth c H locs lh F hR hS hl hw hsl (sc_c trivial (sc_t hst)))
theorem x_iaload {sc : SC} {Y : MI} {mc ms pc k n : Nat} {ls : List (Nat × Value)} {st : List Value} {ww : List PC} {K : Option Value → List PC → Prop} {a : Nat} {vs : List Value} {x : Int32} {y : Int32} (hd : decode (mBy Y) pc = .ok (.iaload, 1)) (ha : a < XB) (hc : ww[a]? = some (100 + 0, vs)) (h0 : 0 ≤ x.toInt) (hv : vs[x.toInt.toNat]? = some (.int y))
    (h : GX sc Y mc ms (pc + 1) ls (.int y :: st) ww k n K) : GX sc Y mc ms pc ls (.int x :: .ref a :: st) ww k n K := by
  intro E hE p e R s m args below meth c H locs lh F hR hS hl hw hsl hst
  have e1 : gV E (.ref a) = .ref (eP E a) := congrArg Value.ref (gA_in ha)
  show W p (eL E) e R s m args below meth c H locs k n _ (F0 m pc lh (.int x :: gV E (.ref a) :: st.map (gV E)))
  rw [e1]
  refine va_iald F.1.1 F.1.2.1 F.2.2.2.1.1 hR.1 (cX ww a) 0 (arr_at hc (by decide)) (eT_at 0 (by decide)) (in_at h0 hv) hd ?_
  have e2 : vInt (vs.getD x.toNatClampNeg .null) = y := by rw [clamp_eq, getD_at hv]; rfl
  show W p (eL E) e R s m args below meth c H locs k n _ (F0 m (pc + 1) lh (.int (vInt (vs.getD x.toNatClampNeg .null)) :: st.map (gV E)))
  rw [e2]
  exact h E hE p e R s m args below meth c H locs lh F hR hS hl hw hsl (sc_c trivial (sc_t (sc_t hst)))
theorem x_baload {sc : SC} {Y : MI} {mc ms pc k n : Nat} {ls : List (Nat × Value)} {st : List Value} {ww : List PC} {K : Option Value → List PC → Prop} {a : Nat} {vs : List Value} {x : Int32} {y : Int32} (hd : decode (mBy Y) pc = .ok (.baload, 1)) (ha : a < XB) (hc : ww[a]? = some (100 + 1, vs)) (h0 : 0 ≤ x.toInt) (hv : vs[x.toInt.toNat]? = some (.int y))
    (h : GX sc Y mc ms (pc + 1) ls (.int y :: st) ww k n K) : GX sc Y mc ms pc ls (.int x :: .ref a :: st) ww k n K := by
  intro E hE p e R s m args below meth c H locs lh F hR hS hl hw hsl hst
  have e1 : gV E (.ref a) = .ref (eP E a) := congrArg Value.ref (gA_in ha)
  show W p (eL E) e R s m args below meth c H locs k n _ (F0 m pc lh (.int x :: gV E (.ref a) :: st.map (gV E)))
  rw [e1]
  refine va_bald F.1.1 F.1.2.1 F.2.2.2.1.1 hR.1 (cX ww a) 1 (arr_at hc (by decide)) (eT_at 1 (by decide)) (in_at h0 hv) hd ?_
  have e2 : vInt (vs.getD x.toNatClampNeg .null) = y := by rw [clamp_eq, getD_at hv]; rfl
  show W p (eL E) e R s m args below meth c H locs k n _ (F0 m (pc + 1) lh (.int (vInt (vs.getD x.toNatClampNeg .null)) :: st.map (gV E)))
  rw [e2]
  exact h E hE p e R s m args below meth c H locs lh F hR hS hl hw hsl (sc_c trivial (sc_t (sc_t hst)))
theorem x_zaload {sc : SC} {Y : MI} {mc ms pc k n : Nat} {ls : List (Nat × Value)} {st : List Value} {ww : List PC} {K : Option Value → List PC → Prop} {a : Nat} {vs : List Value} {x : Int32} {y : Int32} (hd : decode (mBy Y) pc = .ok (.baload, 1)) (ha : a < XB) (hc : ww[a]? = some (100 + 2, vs)) (h0 : 0 ≤ x.toInt) (hv : vs[x.toInt.toNat]? = some (.int y))
    (h : GX sc Y mc ms (pc + 1) ls (.int y :: st) ww k n K) : GX sc Y mc ms pc ls (.int x :: .ref a :: st) ww k n K := by
  intro E hE p e R s m args below meth c H locs lh F hR hS hl hw hsl hst
  have e1 : gV E (.ref a) = .ref (eP E a) := congrArg Value.ref (gA_in ha)
  show W p (eL E) e R s m args below meth c H locs k n _ (F0 m pc lh (.int x :: gV E (.ref a) :: st.map (gV E)))
  rw [e1]
  refine va_zald F.1.1 F.1.2.1 F.2.2.2.1.1 hR.1 (cX ww a) 2 (arr_at hc (by decide)) (eT_at 2 (by decide)) (in_at h0 hv) hd ?_
  have e2 : vInt (vs.getD x.toNatClampNeg .null) = y := by rw [clamp_eq, getD_at hv]; rfl
  show W p (eL E) e R s m args below meth c H locs k n _ (F0 m (pc + 1) lh (.int (vInt (vs.getD x.toNatClampNeg .null)) :: st.map (gV E)))
  rw [e2]
  exact h E hE p e R s m args below meth c H locs lh F hR hS hl hw hsl (sc_c trivial (sc_t (sc_t hst)))
theorem x_iastore {sc : SC} {Y : MI} {mc ms pc k n : Nat} {ls : List (Nat × Value)} {st : List Value} {ww : List PC} {K : Option Value → List PC → Prop} {a : Nat} {vs : List Value} {x : Int32} {y : Int32} (hd : decode (mBy Y) pc = .ok (.iastore, 1)) (ha : a < XB) (hc : ww[a]? = some (100 + 0, vs)) (h0 : 0 ≤ x.toInt) (hv : x.toInt.toNat < vs.length)
    (h : GX sc Y mc ms (pc + 1) ls st (ww.set a (100 + 0, vs.set x.toInt.toNat (.int (y)))) k n K) : GX sc Y mc ms pc ls (.int y :: .int x :: .ref a :: st) ww k n K := by
  intro E hE p e R s m args below meth c H locs lh F hR hS hl hw hsl hst
  have e1 : gV E (.ref a) = .ref (eP E a) := congrArg Value.ref (gA_in ha)
  show W p (eL E) e R s m args below meth c H locs k n _ (F0 m pc lh (.int y :: .int x :: gV E (.ref a) :: st.map (gV E)))
  rw [e1]
  refine va_iast F.1.1 F.1.2.1 F.2.2.2.1.1 hR.1 hR.2 hS (cX ww a) 0 (arr_at hc (by decide)) (eT_at 0 (by decide)) (vp_in_iff.mpr ⟨h0, by omega⟩) hd (fun H1 locs1 hP1 hD1 hS1 => ?_)
  refine W.up (MQ.up (QX.up Ex.rfl' (Gr.set hc (Nat.le_of_ble_eq_true rfl)))) (h E hE p e R s m args below meth c H1 locs1 lh F ?_ hS1 hl (hw.set hc (Nat.le_of_ble_eq_true rfl) (sc_set (hw _ (List.mem_of_getElem? hc)) trivial)) (hsl.gr (Gr.set hc (Nat.le_of_ble_eq_true rfl))) (ScV.gr (Gr.set hc (Nat.le_of_ble_eq_true rfl)) (sc_t (sc_t (sc_t hst)))))
  refine Rep.setq (S := (ww, false)) (c' := (100 + 0, vs.set x.toInt.toNat (.int (y)))) ?_ hR.2 hc (Nat.le_of_ble_eq_true rfl) (Nat.le_of_ble_eq_true rfl)
  rw [cE_arr, List.length_set]
  have e2 : upd (fun j => vInt (vs.getD j .null)) x.toNatClampNeg (y) = fun j => vInt ((vs.set x.toInt.toNat (.int (y))).getD j .null) := by
    funext j
    rw [getD_set hv, clamp_eq]
    unfold upd
    by_cases hj : j = x.toInt.toNat
    · rw [if_pos hj, if_pos hj]; rfl
    · rw [if_neg hj, if_neg hj]
  show va_P (eD E) CL ((cW E ww).set (cX ww a) (eP E a, .inl (eC E 0, vs.length, .inl (fun j => vInt ((vs.set x.toInt.toNat (.int (y))).getD j .null))))) H1
  rw [← e2]
  exact hP1
theorem x_bastore {sc : SC} {Y : MI} {mc ms pc k n : Nat} {ls : List (Nat × Value)} {st : List Value} {ww : List PC} {K : Option Value → List PC → Prop} {a : Nat} {vs : List Value} {x : Int32} {y : Int32} (hd : decode (mBy Y) pc = .ok (.bastore, 1)) (ha : a < XB) (hc : ww[a]? = some (100 + 1, vs)) (h0 : 0 ≤ x.toInt) (hv : x.toInt.toNat < vs.length)
    (h : GX sc Y mc ms (pc + 1) ls st (ww.set a (100 + 1, vs.set x.toInt.toNat (.int (vp_nar .byte y)))) k n K) : GX sc Y mc ms pc ls (.int y :: .int x :: .ref a :: st) ww k n K := by
  intro E hE p e R s m args below meth c H locs lh F hR hS hl hw hsl hst
  have e1 : gV E (.ref a) = .ref (eP E a) := congrArg Value.ref (gA_in ha)
  show W p (eL E) e R s m args below meth c H locs k n _ (F0 m pc lh (.int y :: .int x :: gV E (.ref a) :: st.map (gV E)))
  rw [e1]
  refine va_bast F.1.1 F.1.2.1 F.2.2.2.1.1 hR.1 hR.2 hS (cX ww a) 1 (arr_at hc (by decide)) (eT_at 1 (by decide)) (vp_in_iff.mpr ⟨h0, by omega⟩) hd (fun H1 locs1 hP1 hD1 hS1 => ?_)
  refine W.up (MQ.up (QX.up Ex.rfl' (Gr.set hc (Nat.le_of_ble_eq_true rfl)))) (h E hE p e R s m args below meth c H1 locs1 lh F ?_ hS1 hl (hw.set hc (Nat.le_of_ble_eq_true rfl) (sc_set (hw _ (List.mem_of_getElem? hc)) trivial)) (hsl.gr (Gr.set hc (Nat.le_of_ble_eq_true rfl))) (ScV.gr (Gr.set hc (Nat.le_of_ble_eq_true rfl)) (sc_t (sc_t (sc_t hst)))))
  refine Rep.setq (S := (ww, false)) (c' := (100 + 1, vs.set x.toInt.toNat (.int (vp_nar .byte y)))) ?_ hR.2 hc (Nat.le_of_ble_eq_true rfl) (Nat.le_of_ble_eq_true rfl)
  rw [cE_arr, List.length_set]
  have e2 : upd (fun j => vInt (vs.getD j .null)) x.toNatClampNeg (vp_nar .byte y) = fun j => vInt ((vs.set x.toInt.toNat (.int (vp_nar .byte y))).getD j .null) := by
    funext j
    rw [getD_set hv, clamp_eq]
    unfold upd
    by_cases hj : j = x.toInt.toNat
    · rw [if_pos hj, if_pos hj]; rfl
    · rw [if_neg hj, if_neg hj]
  show va_P (eD E) CL ((cW E ww).set (cX ww a) (eP E a, .inl (eC E 1, vs.length, .inl (fun j => vInt ((vs.set x.toInt.toNat (.int (vp_nar .byte y))).getD j .null))))) H1
  rw [← e2]
  exact hP1
theorem x_zastore {sc : SC} {Y : MI} {mc ms pc k n : Nat} {ls : List (Nat × Value)} {st : List Value} {ww : List PC} {K : Option Value → List PC → Prop} {a : Nat} {vs : List Value} {x : Int32} {y : Int32} (hd : decode (mBy Y) pc = .ok (.bastore, 1)) (ha : a < XB) (hc : ww[a]? = some (100 + 2, vs)) (h0 : 0 ≤ x.toInt) (hv : x.toInt.toNat < vs.length)
    (h : GX sc Y mc ms (pc + 1) ls st (ww.set a (100 + 2, vs.set x.toInt.toNat (.int (vp_nar .boolean y)))) k n K) : GX sc Y mc ms pc ls (.int y :: .int x :: .ref a :: st) ww k n K := by
  intro E hE p e R s m args below meth c H locs lh F hR hS hl hw hsl hst
  have e1 : gV E (.ref a) = .ref (eP E a) := congrArg Value.ref (gA_in ha)
  show W p (eL E) e R s m args below meth c H locs k n _ (F0 m pc lh (.int y :: .int x :: gV E (.ref a) :: st.map (gV E)))
  rw [e1]
  refine va_zast F.1.1 F.1.2.1 F.2.2.2.1.1 hR.1 hR.2 hS (cX ww a) 2 (arr_at hc (by decide)) (eT_at 2 (by decide)) (vp_in_iff.mpr ⟨h0, by omega⟩) hd (fun H1 locs1 hP1 hD1 hS1 => ?_)
  refine W.up (MQ.up (QX.up Ex.rfl' (Gr.set hc (Nat.le_of_ble_eq_true rfl)))) (h E hE p e R s m args below meth c H1 locs1 lh F ?_ hS1 hl (hw.set hc (Nat.le_of_ble_eq_true rfl) (sc_set (hw _ (List.mem_of_getElem? hc)) trivial)) (hsl.gr (Gr.set hc (Nat.le_of_ble_eq_true rfl))) (ScV.gr (Gr.set hc (Nat.le_of_ble_eq_true rfl)) (sc_t (sc_t (sc_t hst)))))
  refine Rep.setq (S := (ww, false)) (c' := (100 + 2, vs.set x.toInt.toNat (.int (vp_nar .boolean y)))) ?_ hR.2 hc (Nat.le_of_ble_eq_true rfl) (Nat.le_of_ble_eq_true rfl)
  rw [cE_arr, List.length_set]
  have e2 : upd (fun j => vInt (vs.getD j .null)) x.toNatClampNeg (vp_nar .boolean y) = fun j => vInt ((vs.set x.toInt.toNat (.int (vp_nar .boolean y))).getD j .null) := by
    funext j
    rw [getD_set hv, clamp_eq]
    unfold upd
    by_cases hj : j = x.toInt.toNat
    · rw [if_pos hj, if_pos hj]; rfl
    · rw [if_neg hj, if_neg hj]
  show va_P (eD E) CL ((cW E ww).set (cX ww a) (eP E a, .inl (eC E 2, vs.length, .inl (fun j => vInt ((vs.set x.toInt.toNat (.int (vp_nar .boolean y))).getD j .null))))) H1
  rw [← e2]
  exact hP1
