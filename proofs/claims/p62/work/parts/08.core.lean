theorem q_objI : Cond.instanceMethod Lib.objectInit ∈ gtbl := q_45
theorem q_objC : Cond.code Lib.objectInit ⟨#[0xb1]⟩ 1 none ∈ gtbl := q_46
theorem q_minS : Cond.static Lib.Math.min.name ∈ gtbl := q_291
theorem q_minC : Cond.code Lib.Math.min.name Lib.Math.min.code 2 (some .int) ∈ gtbl := q_292
theorem q_maxS : Cond.static Lib.Math.max.name ∈ gtbl := q_928
theorem q_maxC : Cond.code Lib.Math.max.name Lib.Math.max.code 2 (some .int) ∈ gtbl := q_929
theorem q_absS : Cond.static Lib.Math.abs.name ∈ gtbl := q_1729
theorem q_absC : Cond.code Lib.Math.abs.name Lib.Math.abs.code 1 (some .int) ∈ gtbl := q_1730
theorem q_mathI : Cond.initialized "java/lang/Math" ∈ gtbl := q_11
theorem g_objinit {E : EV} {Y : MI} {mc ms pc k n i x : Nat} {ls : List (Nat × Value)} {rest : List Value} {S : PS} {K : RK → PS → Prop} (hd : decode (mBy Y) pc = .ok (.invokespecial i, 3)) (h1 : Cond.methodLink (mNm Y).cls i Lib.objectInit ∈ gtbl) (hF : 1 ≤ mFr Y) (hW : 24 ≤ mWd Y) (hr8 : (rest.map fun v => v.category).sum ≤ 8)
    (h : Go E Y mc ms (pc + 3) ls rest S k n K) : Go E Y mc ms pc ls (.ref x :: rest) S k n K := by
  intro p e R s m args below meth c H locs lh F hR hS hl
  have hts := F.1.2.2.2.2
  have h8 := room_at (m := m) (pc := pc) (ls := lh) (st := gV E (.ref x) :: rest.map (gV E)) (cats_le (E := E) hr8)
  refine W.objInit (g := F0 m pc lh (gV E (.ref x) :: rest.map (gV E))) F.1.1 F.1.2.1 F.1.2.2.2.1 (hts _ h1) (hts _ q_objI) (hts _ q_objC) rfl (by rw [F.1.2.2.1]; exact hl.1) rfl hd (Nat.le_trans hF F.2.2.1.1) (by have := F.2.2.1.2.1; omega) ?_
  exact h p e R s m args below meth c H locs lh F hR hS hl
/-! 'throw new X("text")' -/
def nmT : List String := ["java/lang/RuntimeException", "java/lang/Exception"]
def bdT : List Cond := castT.map (fun q => Cond.castable q.1 q.2) ++ privT.map Cond.declares
def TH (own : String) (i is ic : Nat) (cls text : String) : Prop := Bundle.fit cls = true ∧ Cond.classLink own i cls ∈ gtbl ∧ Cond.initialized cls ∈ gtbl ∧ (own, is, text) ∈ strT ∧ (∀ w ∈ (vx_atS own ic cls nmT).filter goodWord, w ∈ gtbl) ∧ (∀ w ∈ (vx_atS own ic cls nmT).filter (fun w => !goodWord w), w ∈ bdT) ∧ (∀ w ∈ Cond.classLink own i cls :: Cond.initialized cls :: vx_atS own ic cls nmT, vx_ot w = true)
theorem nmT_fit : ∀ n ∈ nmT, Bundle.fit n = true := by decide +kernel
theorem g_throw {E : EV} {Y : MI} {mc ms pc k n i is ic : Nat} {ls : List (Nat × Value)} {rest : List Value} {S : PS} {K : RK → PS → Prop} {cls text : String} (hT : TH (mNm Y).cls i is ic cls text)
    (d0 : decode (mBy Y) pc = .ok (.new i, 3)) (d3 : decode (mBy Y) (pc + 3) = .ok (.dup, 1)) (d4 : decode (mBy Y) (pc + 4) = .ok (.ldc is, 2)) (d6 : decode (mBy Y) (pc + 6) = .ok (.invokespecial ic, 3)) (d9 : decode (mBy Y) (pc + 9) = .ok (.athrow, 1))
    (hh : mHh Y = []) (hF : 7 ≤ mFr Y) (hW : 110 ≤ mWd Y) (hr8 : (rest.map fun v => v.category).sum ≤ 8) (hk : k + 1 ≤ mc) (hn : n + 6 ≤ ms) (h : K (.inr cls) (S.1, false)) : Go E Y mc ms pc ls rest S k n K := by
  intro p e R s m args below meth c H locs lh F hR hS hl
  have hts := F.1.2.2.2.2
  obtain ⟨t1, t2, t3, t4, t5, t6, t7⟩ := hT
  obtain ⟨sa, hsa⟩ := F.2.2.2.2.2.2.1 _ t4
  have htab : c.exceptionTable.toList = [] := by rw [F.2.1.2.2.2, hh]; rfl
  have hcats := cats_le (E := E) hr8
  refine vx_throwS (names := nmT) (text := text) (A := eA E) F.1.1 F.1.2.1 F.2.2.2.1.2.2.2 F.1.2.2.2.1 t1 nmT_fit (hts _ t2) (hts _ t3) hsa ?_ t7 F.2.2.2.2.2.1.1 F.2.2.2.2.2.1.2 hS (hl.1.trans F.1.2.2.1.symm) d0 d3 d4 d6 d9 (fun x hx => by rw [htab] at hx; cases hx) (by have := F.2.2.1.1; show 2 + 3 < R.frames; omega) (by have := F.2.2.1.2.1; show _ + (13 * (2 + 1) + 43) ≤ R.locals; omega) (Nat.le_trans hk F.2.2.1.2.2.1) (Nat.le_trans hn F.2.2.1.2.2.2) F.2.1.2.1 ?_ hS.2.2 hk hn
  · refine vx_hat (B := bdT) (fun w hw => hts w (t5 w hw)) t6 (fun w hw => ?_)
    rcases List.mem_append.mp hw with hw | hw
    · obtain ⟨q, hq, rfl⟩ := List.mem_map.mp hw
      exact va_Nw.use rfl (F.2.2.2.2.2.2.2.1.2.1 q hq)
    · obtain ⟨q, hq, rfl⟩ := List.mem_map.mp hw
      exact va_Nw.use rfl (F.2.2.2.2.2.2.2.1.2.2.2 q hq)
  · intro t hA hz hq
    refine ⟨⟨(S.1, false), h, ⟨hR.1.kept (fun k q hk => hq q.1 (hR.1 k q hk).lt), hR.2⟩⟩, Nat.le_trans hS.1 hz, fun q h1 h2 => ?_⟩
    rw [hq q (Nat.lt_of_lt_of_le h1 hS.1)]
    exact hS.2.1 q h1 h2
theorem g_throwW {E : EV} {Y : MI} {mc ms pc k n i is ic : Nat} {ls : List (Nat × Value)} {rest : List Value} {S : PS} {K : RK → PS → Prop} {cls text : String} (hT : TH (mNm Y).cls i is ic cls text)
    (d0 : decode (mBy Y) pc = .ok (.new i, 3)) (d3 : decode (mBy Y) (pc + 3) = .ok (.dup, 1)) (d4 : decode (mBy Y) (pc + 4) = .ok (.ldc_w is, 3)) (d6 : decode (mBy Y) (pc + 7) = .ok (.invokespecial ic, 3)) (d9 : decode (mBy Y) (pc + 10) = .ok (.athrow, 1))
    (hh : mHh Y = []) (hF : 7 ≤ mFr Y) (hW : 110 ≤ mWd Y) (hr8 : (rest.map fun v => v.category).sum ≤ 8) (hk : k + 1 ≤ mc) (hn : n + 6 ≤ ms) (h : K (.inr cls) (S.1, false)) : Go E Y mc ms pc ls rest S k n K := by
  intro p e R s m args below meth c H locs lh F hR hS hl
  have hts := F.1.2.2.2.2
  obtain ⟨t1, t2, t3, t4, t5, t6, t7⟩ := hT
  obtain ⟨sa, hsa⟩ := F.2.2.2.2.2.2.1 _ t4
  have htab : c.exceptionTable.toList = [] := by rw [F.2.1.2.2.2, hh]; rfl
  have hcats := cats_le (E := E) hr8
  refine vx_throwSW (names := nmT) (text := text) (A := eA E) F.1.1 F.1.2.1 F.2.2.2.1.2.2.2 F.1.2.2.2.1 t1 nmT_fit (hts _ t2) (hts _ t3) hsa ?_ t7 F.2.2.2.2.2.1.1 F.2.2.2.2.2.1.2 hS (hl.1.trans F.1.2.2.1.symm) d0 d3 d4 d6 d9 (fun x hx => by rw [htab] at hx; cases hx) (by have := F.2.2.1.1; show 2 + 3 < R.frames; omega) (by have := F.2.2.1.2.1; show _ + (13 * (2 + 1) + 43) ≤ R.locals; omega) (Nat.le_trans hk F.2.2.1.2.2.1) (Nat.le_trans hn F.2.2.1.2.2.2) F.2.1.2.1 ?_ hS.2.2 hk hn
  · refine vx_hat (B := bdT) (fun w hw => hts w (t5 w hw)) t6 (fun w hw => ?_)
    rcases List.mem_append.mp hw with hw | hw
    · obtain ⟨q, hq, rfl⟩ := List.mem_map.mp hw
      exact va_Nw.use rfl (F.2.2.2.2.2.2.2.1.2.1 q hq)
    · obtain ⟨q, hq, rfl⟩ := List.mem_map.mp hw
      exact va_Nw.use rfl (F.2.2.2.2.2.2.2.1.2.2.2 q hq)
  · intro t hA hz hq
    refine ⟨⟨(S.1, false), h, ⟨hR.1.kept (fun k q hk => hq q.1 (hR.1 k q hk).lt), hR.2⟩⟩, Nat.le_trans hS.1 hz, fun q h1 h2 => ?_⟩
    rw [hq q (Nat.lt_of_lt_of_le h1 hS.1)]
    exact hS.2.1 q h1 h2
/-! an exception caught: 'catch (X e) { return v; }' -/
def CT (Y : MI) (pc : Nat) (cn : String) (v : Int32) : Prop := ∃ (pre suf : List (Nat × Nat × Nat × Nat)) (x : Nat × Nat × Nat × Nat) (nm : String) (kk pc2 : Nat) (z : Int), mHh Y = pre ++ x :: suf ∧ (∀ z ∈ pre, z.2.2.2 ≠ 0 ∧ ∃ nm2 : String, Cond.classLink (mNm Y).cls z.2.2.2 nm2 ∈ gtbl ∧ (cn, nm2) ∈ ncT) ∧
  covers (⟨x.1, x.2.1, x.2.2.1, x.2.2.2⟩ : ExceptionTableEntry) pc = true ∧ x.2.2.2 ≠ 0 ∧ Cond.classLink (mNm Y).cls x.2.2.2 nm ∈ gtbl ∧ (cn, nm) ∈ castT ∧ kk < mLo Y ∧
  ((decode (mBy Y) x.2.2.1 = .ok (.astore kk, 2) ∧ pc2 = x.2.2.1 + 2) ∨ (∃ f : Fin 4, (f : Nat) = kk ∧ decode (mBy Y) x.2.2.1 = .ok (.astore_n f, 1) ∧ pc2 = x.2.2.1 + 1)) ∧ decode (mBy Y) pc2 = .ok (.iconst z, 1) ∧ Int32.ofInt z = v ∧ decode (mBy Y) (pc2 + 1) = .ok (.ireturn, 1) ∧ mRt Y = some .int
theorem CT.go {E : EV} {Y : MI} {mc ms pc k n : Nat} {S : PS} {K : RK → PS → Prop} {cn : String} {v : Int32} (hC : CT Y pc cn v) (hK : K (.inl (some (.int v))) (S.1, false)) (hk : k ≤ mc) (hn : n ≤ ms)
    {p : Program} {e : Env} {R : Room} {s : State} {m : MethodId} {args : Array Value} {below : List Frame} {meth : Method} {c : Code} {H : Heap} {locs : List Loc} {lh : Array Slot} {rest : List Value} {q : Addr} {ce : Cell} {z0 : Nat}
    (F : Fr E Y mc ms p R s m args meth c) (hR : Rep E (S.1, false) z0 H) (hS : va_S (eA E) s.heap H locs) (hl : lv_has lh (mLo Y) []) (hce : H[q]? = some ce) (hcv : ce.vm = .none) (hcl : s.vm.findClass cn = some ce.cls) :
    vx_W p (eL E) e R s m args below meth c H locs k n (vx_MQ below (QcK E mc K) (XcK E mc K) args s mc ms (eA E)) (F0 m pc lh rest) q := by
  obtain ⟨pre, suf, x, nm, kk, pc2, z, c1, c2, c3, c4, c5, c6, c7, c8, c9, c10, c11, c12⟩ := hC
  have hts := F.1.2.2.2.2
  refine vx_catch (name := nm) F.1.2.2.2.1 (tableOf pre) ⟨x.1, x.2.1, x.2.2.1, x.2.2.2⟩ (tableOf suf) (by rw [F.2.1.2.2.2, c1]; unfold tableOf; rw [List.map_append]; rfl) ?_ c3 c4 (hts _ c5) (va_Nw.use rfl (F.2.2.2.2.2.2.2.1.2.1 _ c6)) hce hcv hcl ?_
  · intro y hy
    obtain ⟨y0, hy0, rfl⟩ := List.mem_map.mp hy
    obtain ⟨d1, nm2, d2, d3⟩ := c2 y0 hy0
    exact Or.inr ⟨d1, nm2, hts _ d2, F.2.2.2.2.2.2.2.1.2.2.1 _ d3⟩
  · have fin : ∀ lh2 : Array Slot, lv_has lh2 (mLo Y) [] → W p (eL E) e R s m args below meth c H locs k n (vx_MQ below (QcK E mc K) (XcK E mc K) args s mc ms (eA E)) (F0 m pc2 lh2 []) := by
      intro lh2 hl2
      refine lv_iconst F.1.1 F.1.2.1 c9 c10 ?_
      exact g_ireturn (E := E) (Y := Y) (mc := mc) (ms := ms) (ls := []) (S := (S.1, false)) (K := K) (x := v) c11 c12 rfl hk hn (fun q => (by cases q)) hK p e R s m args below meth c H locs lh2 F hR hS hl2
    rcases c8 with ⟨c8, rfl⟩ | ⟨f, hf, c8, rfl⟩
    · exact lv_astore (lv' := [(kk, .ref q)]) F.1.1 F.1.2.1 c8 hl c7 rfl (fun lh2 hl2 => fin lh2 ⟨hl2.1, hl2.2.1, fun q hq => (by cases hq)⟩)
    · exact lv_astore_n (lv' := [(kk, .ref q)]) F.1.1 F.1.2.1 c8 hf hl c7 rfl (fun lh2 hl2 => fin lh2 ⟨hl2.1, hl2.2.1, fun q hq => (by cases hq)⟩)
/-- behind a call in a method that catches: 'tb' says which number an exception's class becomes -/
def KX (E : EV) (Y : MI) (mc ms pc : Nat) (ls : List (Nat × Value)) (rest : List Value) (fl : Bool) (k n : Nat) (K : RK → PS → Prop) : RK → PS → Prop := fun r S' => match r with
  | .inl v => Go E Y mc ms (pc + 3) ls (v.toList ++ rest) (S'.1, S'.2 && fl) k n K
  | .inr cn => ∃ v : Int32, CT Y pc cn v ∧ K (.inl (some (.int v))) (S'.1, false)
theorem g_callVX {E : EV} {Y Y' : MI} {mc ms mc' ms' pc k n i nA : Nat} {ls : List (Nat × Value)} {As rest : List Value} {S : PS} {K : RK → PS → Prop} {b ci : Nat} {vs : List Value} (hd : decode (mBy Y) pc = .ok (.invokevirtual i, 3)) (hw : LV (mNm Y).cls i (RC ci) Y' nA) (hf : Fits Y Y') (hci : ci < 18) (hb : b < XB) (hc : S.1[b]? = some (ci, vs)) (hA : As.length = nA) (hr8 : (rest.map fun v => v.category).sum ≤ 8) (hk : k + mc' ≤ mc) (hn : n + ms' ≤ ms)
    (h : Ev E Y' (.ref b :: As) S mc' ms' (KX E Y mc ms pc ls rest S.2 (k + mc') (n + ms') K)) : Go E Y mc ms pc ls (As.reverse ++ .ref b :: rest) S k n K := by
  intro p e R s m args below meth c H locs lh F hR hS hl
  refine W.sz (fun hz => ?_)
  have hts := F.1.2.2.2.2
  have e1 : gV E (.ref b) = .ref (eP E b) := congrArg Value.ref (gA_in hb)
  have e2 : (As.reverse ++ .ref b :: rest).map (gV E) = (As.map (gV E)).reverse ++ .ref (eP E b) :: rest.map (gV E) := by rw [List.map_append, List.map_cons, e1, List.map_reverse]
  rw [e2]
  have hcell := cW_at (E := E) hc (Nat.lt_trans hci (by decide))
  rw [cE_obj (by omega)] at hcell
  have hrun := vx_runV (p := p) (e := e) (below := below) (meth := meth) (locs := locs) (cells := k) (slots := n) (m := m) (g := F0 m pc lh ((As.map (gV E)).reverse ++ .ref (eP E b) :: rest.map (gV E))) (As := As.map (gV E)) (rest := rest.map (gV E)) (b := eP E b) (C := RC ci) (H := H)
    ⟨F.1.1, F.1.2.1, F.1.2.2.1, F.1.2.2.2.1, hts⟩ h ⟨cB hw.1 (hts _ hw.2.1) hts hf F.2.2.1.1 F.2.2.1.2.1, hts _ hw.2.2.1, hts _ hw.2.2.2⟩
    ⟨frb, va_recv F.2.2.2.1.1 hR.1 (CL_at ci hci) hcell, fun U hU hW => by have := PcA_of (args := .ref b :: As) F.2.2.2 hR hz hS hU hW; rw [List.map_cons, e1] at this; exact this⟩ rfl (by rw [List.length_map]; exact hA) hl.1 rfl (room_at (cats_le hr8)) hd ⟨Nat.le_trans hk F.2.2.1.2.2.1, Nat.le_trans hn F.2.2.1.2.2.2⟩
  intro T hT X
  rcases hrun T hT X with ⟨v, st₀, t, T', L, h0, X', hL, e1, e2, ⟨⟨v', S', hv, hK', hR'⟩, hF⟩, st⟩ | ⟨q, st₀, t, T', L, E1, ce, h0, X', hL, e1, e2, ⟨⟨S', hK', hR'⟩, hF⟩, hce, hcv, hcl, st⟩
  · have hv' : v = v'.map (gV E) := Outcome.returned.inj hv
    subst hv'
    obtain ⟨k1, k2, k3⟩ := vx_keep h0 e1 hS (fun q _ h => h) (fun q h => h) hL hF
    have G : Go E Y mc ms (pc + 3) ls (v'.toList ++ rest) (S'.1, S'.2 && S.2) (k + mc') (n + ms') K := hK'
    obtain ⟨t2, a1, b1⟩ := G p e R s m args below meth c T'.heap (locs ++ L) lh F (Rep.back hR hz h0 e1 hR') k3 hl T' rfl X'
    have e3 : (v'.toList ++ rest).map (gV E) = (v'.map (gV E)).toList ++ rest.map (gV E) := by cases v' <;> rfl
    rw [e3] at a1
    exact ⟨t2, st t2 a1, b1⟩
  · obtain ⟨k1, k2, k3⟩ := vx_keep h0 e1 hS (fun q _ h => h) (fun q h => h) hL hF
    have G : ∃ v : Int32, CT Y pc E1 v ∧ K (.inl (some (.int v))) (S'.1, false) := hK'
    obtain ⟨v, G1, G2⟩ := G
    obtain ⟨t2, a1, b1⟩ := G1.go (E := E) (S := S') (rest := rest.map (gV E)) (below := below) G2 hk hn F (z0 := 0) (by rw [e1]; exact hR') k3 ⟨hl.1, hl.2.1, fun q hq => (by cases hq)⟩ (by rw [e1]; exact hce) hcv hcl T' rfl X'
    exact ⟨t2, st.trans a1, b1⟩
/-- a static call of a method that has handlers -/
def LH (own : String) (i : Nat) (Y' : MI) (nA : Nat) : Prop := Cond.initialized (mNm Y').cls ∈ gtbl ∧ Cond.codeWith (mNm Y') (mBy Y') (mLo Y') (mRt Y') (mHh Y') ∈ gtbl ∧ ((mNm Y').cls ≠ "java/lang/invoke/MethodHandle" ∧ (mNm Y').cls ≠ "java/lang/invoke/VarHandle") ∧ (parseMethodDescriptor (mNm Y').desc).map (fun d => d.parameters.length) = some nA ∧ Cond.methodLink own i (mNm Y') ∈ gtbl ∧ Cond.static (mNm Y') ∈ gtbl
theorem g_callSX {E : EV} {Y Y' : MI} {mc ms mc' ms' pc k n i nA : Nat} {ls : List (Nat × Value)} {As rest : List Value} {S : PS} {K : RK → PS → Prop} (hd : decode (mBy Y) pc = .ok (.invokestatic i, 3)) (hw : LH (mNm Y).cls i Y' nA) (hf : Fits Y Y') (hA : As.length = nA) (hr8 : (rest.map fun v => v.category).sum ≤ 8) (hk : k + mc' ≤ mc) (hn : n + ms' ≤ ms)
    (h : EvH E Y' As S mc' ms' (KC E Y mc ms (pc + 3) ls rest S.2 (k + mc') (n + ms') K)) : Go E Y mc ms pc ls (As.reverse ++ rest) S k n K := by
  intro p e R s m args below meth c H locs lh F hR hS hl
  refine W.sz (fun hz => ?_)
  have hts := F.1.2.2.2.2
  obtain ⟨l1, l2, l3, l4, l5, l6⟩ := hw
  have e2 : (As.reverse ++ rest).map (gV E) = (As.map (gV E)).reverse ++ rest.map (gV E) := by rw [List.map_append, List.map_reverse]
  rw [e2]
  have hrun := vx_runSX (p := p) (e := e) (below := below) (meth := meth) (locs := locs) (cells := k) (slots := n) (m := m) (g := F0 m pc lh ((As.map (gV E)).reverse ++ rest.map (gV E))) (As := As.map (gV E)) (rest := rest.map (gV E)) (H := H) (hh := mHh Y') (bytes := mBy Y') (maxL := mLo Y') (ret := mRt Y') (own := (mNm Y).cls) (index := i) (n := nA)
    ⟨F.1.1, F.1.2.1, F.1.2.2.1, F.1.2.2.2.1, hts⟩ h ⟨⟨rfl, rfl, Nat.le_trans hf.1 F.2.2.1.1, Nat.le_trans hf.2 F.2.2.1.2.1, fun w hw a' U hW => ?_, List.mem_cons_self⟩, hts _ l2, hts _ l1, l3, fun sig hsig => ?_, hts _ l5, hts _ l6⟩
    ⟨frb, fun U hU hW => PcA_of (args := As) F.2.2.2 hR hz hS hU hW⟩ rfl (by rw [List.length_map]; exact hA) hl.1 rfl (room_at (cats_le hr8)) hd ⟨Nat.le_trans hk F.2.2.1.2.2.1, Nat.le_trans hn F.2.2.1.2.2.2⟩
  · exact run_go hrun F hR hS hl hk hn
  · have hm : w ∈ gtbl := by
      rcases List.mem_cons.mp hw with rfl | hw
      · exact l2
      · exact hw
    exact word_at hW (good_of_word (gt_good w hm)) (hts w hm)
  · rw [hsig] at l4
    exact (Option.some.inj l4).symm
section MathRules
variable {E : EV} {Y : MI} {mc ms pc k n i : Nat} {ls : List (Nat × Value)} {st : List Value} {S : PS} {K : RK → PS → Prop} {x y : Int32}
theorem cats_le2 {E : EV} {st : List Value} {a b : Nat} (h : (st.map fun v => v.category).sum + 13 ≤ a) (h2 : a ≤ b) : ((st.map (gV E)).map fun v => v.category).sum + 13 ≤ b := by rw [gV_cats]; omega
theorem g_mmin (hd : decode (mBy Y) pc = .ok (.invokestatic i, 3)) (h1 : Cond.methodLink (mNm Y).cls i Lib.Math.min.name ∈ gtbl) (hF : 1 ≤ mFr Y) (hr8 : (st.map fun v => v.category).sum + 13 ≤ mWd Y) (hk : k ≤ mc) (hn : n ≤ ms) (h : Go E Y mc ms (pc + 3) ls (.int (if y < x then y else x) :: st) S k n K) : Go E Y mc ms pc ls (.int y :: .int x :: st) S k n K := by
  intro p e R s m args below meth c H locs lh F hR hS hl
  have hts := F.1.2.2.2.2
  exact va_mmin F.1.1 F.1.2.1 (hl.1.trans F.1.2.2.1.symm).symm F.1.2.2.2.1 (hts _ h1) (hts _ q_minS) (hts _ q_mathI) (hts _ q_minC) (Nat.le_trans hF F.2.2.1.1) (cats_le2 hr8 F.2.2.1.2.1) (Nat.le_trans hk F.2.2.1.2.2.1) (Nat.le_trans hn F.2.2.1.2.2.2) hd (h p e R s m args below meth c H locs lh F hR hS hl)
theorem g_mmax (hd : decode (mBy Y) pc = .ok (.invokestatic i, 3)) (h1 : Cond.methodLink (mNm Y).cls i Lib.Math.max.name ∈ gtbl) (hF : 1 ≤ mFr Y) (hr8 : (st.map fun v => v.category).sum + 13 ≤ mWd Y) (hk : k ≤ mc) (hn : n ≤ ms) (h : Go E Y mc ms (pc + 3) ls (.int (if x < y then y else x) :: st) S k n K) : Go E Y mc ms pc ls (.int y :: .int x :: st) S k n K := by
  intro p e R s m args below meth c H locs lh F hR hS hl
  have hts := F.1.2.2.2.2
  exact va_mmax F.1.1 F.1.2.1 (hl.1.trans F.1.2.2.1.symm).symm F.1.2.2.2.1 (hts _ h1) (hts _ q_maxS) (hts _ q_mathI) (hts _ q_maxC) (Nat.le_trans hF F.2.2.1.1) (cats_le2 hr8 F.2.2.1.2.1) (Nat.le_trans hk F.2.2.1.2.2.1) (Nat.le_trans hn F.2.2.1.2.2.2) hd (h p e R s m args below meth c H locs lh F hR hS hl)
theorem g_mabs (hd : decode (mBy Y) pc = .ok (.invokestatic i, 3)) (h1 : Cond.methodLink (mNm Y).cls i Lib.Math.abs.name ∈ gtbl) (hF : 1 ≤ mFr Y) (hr8 : (st.map fun v => v.category).sum + 13 ≤ mWd Y) (hk : k ≤ mc) (hn : n ≤ ms) (h : Go E Y mc ms (pc + 3) ls (.int (if 0 ≤ x then x else 0 - x) :: st) S k n K) : Go E Y mc ms pc ls (.int x :: st) S k n K := by
  intro p e R s m args below meth c H locs lh F hR hS hl
  have hts := F.1.2.2.2.2
  exact va_mabs F.1.1 F.1.2.1 (hl.1.trans F.1.2.2.1.symm).symm F.1.2.2.2.1 (hts _ h1) (hts _ q_absS) (hts _ q_mathI) (hts _ q_absC) (Nat.le_trans hF F.2.2.1.1) (cats_le2 hr8 F.2.2.1.2.1) (Nat.le_trans hk F.2.2.1.2.2.1) (Nat.le_trans hn F.2.2.1.2.2.2) hd (h p e R s m args below meth c H locs lh F hR hS hl)
end MathRules
