/-! MOVING WORLDS: ends, contracts, calls -/
section XEnds
variable {sc : SC} {Y : MI} {mc ms pc k n : Nat} {ls : List (Nat × Value)} {st : List Value} {ww : List PC} {K : Option Value → List PC → Prop}
theorem x_ireturn {x : Int32} {ty : FieldType} (hd : decode (mBy Y) pc = .ok (.ireturn, 1)) (hr : mRt Y = some ty) (hn0 : narrow ty (.int x) = .int x) (hk : k ≤ mc) (hn : n ≤ ms) (h : K (some (.int x)) ww) : GX sc Y mc ms pc ls [.int x] ww k n K := by
  intro E hE p e R s m args below meth c H locs lh F hR hS hl hw hsl hst
  refine W.widen hk hn ?_
  exact W.zret (v := x) F.1.1 F.1.2.1 (F.2.1.1.trans hr) hn0 (fun t ht hW => ⟨⟨E, some (.int x), ww, Ex.rfl', Gr.rfl', hw, fun y hy => (by cases hy; trivial), rfl, h, by rw [ht]; exact hR⟩, hS.F ht⟩) hS.2.2 hd F.2.1.2.1
theorem x_return (hd : decode (mBy Y) pc = .ok (.return_, 1)) (hr : mRt Y = none) (hk : k ≤ mc) (hn : n ≤ ms) (h : K none ww) : GX sc Y mc ms pc ls [] ww k n K := by
  intro E hE p e R s m args below meth c H locs lh F hR hS hl hw hsl hst
  refine W.widen hk hn ?_
  exact W.vret F.1.1 F.1.2.1 (F.2.1.1.trans hr) (fun t ht hW => ⟨⟨E, none, ww, Ex.rfl', Gr.rfl', hw, fun y hy => (by cases hy), rfl, h, by rw [ht]; exact hR⟩, hS.F ht⟩) hS.2.2 hd F.2.1.2.1
theorem x_areturn {v : Value} {rt : FieldType} (hd : decode (mBy Y) pc = .ok (.areturn, 1)) (hr : mRt Y = some rt) (hrt : (∃ n, rt = .object n) ∨ ∃ t, rt = .array t) (hv : v = .null ∨ ∃ a, v = .ref a) (hk : k ≤ mc) (hn : n ≤ ms) (h : K (some v) ww) : GX sc Y mc ms pc ls [v] ww k n K := by
  intro E hE p e R s m args below meth c H locs lh F hR hS hl hw hsl hst
  refine W.widen hk hn ?_
  exact W.aret (v := gV E v) F.1.1 F.1.2.1 (F.2.1.1.trans hr) hrt (by rcases hv with rfl | ⟨a, rfl⟩; exact .inl rfl; exact .inr ⟨_, rfl⟩) (fun t ht hW => ⟨⟨E, some v, ww, Ex.rfl', Gr.rfl', hw, fun y hy => (by cases hy; exact sc_h hst), rfl, h, by rw [ht]; exact hR⟩, hS.F ht⟩) hS.2.2 hd F.2.1.2.1
end XEnds
/-- what a call of the law's kind asks and leaves -/
def PcX (E : EV) (args : List Value) (w : List PC) : Array Value → State → Prop := fun v U => v = (args.map (gV E)).toArray ∧ EnvS E U ∧ Rep E (w, false) U.heap.size U.heap ∧ WfW w ∧ ScV w args
def EvX (sc : SC) (Y : MI) (args : List Value) (w : List PC) (mc ms : Nat) (K : Option Value → List PC → Prop) : Prop :=
  ∀ E : EV, SE sc E → Met (eL E) (mNm Y) (wd Y) (rmY Y mc ms) (PcX E args w) (QX E w K) mc ms (eA E)
theorem fbX {E : EV} {args : List Value} {w : List PC} : FrameBlind (PcX E args w) := fun _ _ g mk h => ⟨h.1, h.2.1.call g mk _, h.2.2⟩
theorem sc_args {w : List PC} : ∀ (l : List Value) (i : Nat), ScV w l → ScL w (lv_args i l)
  | [], _, _ => fun _ h => nomatch h
  | v :: l, i, h => fun q hq => by
    rcases List.mem_cons.mp hq with rfl | hq
    · exact sc_h h
    · exact sc_args l _ (sc_t h) q hq
theorem EvX.of {sc : SC} {Y : MI} {args : List Value} {w : List PC} {mc ms : Nat} {K : Option Value → List PC → Prop} (hy : plainName (mNm Y).cls = true) (hh : mHh Y = []) (hlen : (lg_sl args).length ≤ mLo Y) (h : GX sc Y mc ms 0 (lv_args 0 args) [] w 0 0 K) : EvX sc Y args w mc ms K := fun E hE => by
  have hv : vx_Met (eL E) (mNm Y) (wd Y) (rmY Y mc ms) (PcX E args w) (QX E w K) (fun _ _ _ => False) mc ms (eA E) := by
    refine vx_ofW (cc := mBy Y) (maxL := mLo Y) (ret := mRt Y) hy rfl ?_
    intro p e s m args' below meth c s₁ B hml ht hv
    obtain ⟨rfl, hEs, hR, hwf, hsa⟩ := hv
    have hts := atoms_spec (ws := wd Y) B.pre
    have hnm := (name_of_methodNamed B.named B.method).1
    have hlen' : (lg_sl (args.map (gV E))).length ≤ mLo Y := by rw [lg_len]; exact hlen
    have hl := lv_entry (args.map (gV E)) (n := mLo Y) hlen'
    rw [lg_entry_eq]
    generalize (lg_sl (args.map (gV E)) ++ List.replicate (mLo Y - (lg_sl (args.map (gV E))).length) Slot.unset).toArray = lh at hl ⊢
    rw [gL_args] at hl
    have htab : c.exceptionTable.toList = tableOf (mHh Y) := by
      rw [hh]
      cases hx : c.exceptionTable.toList with
      | nil => rfl
      | cons a l => exact (ht a (by rw [hx]; exact List.mem_cons_self)).elim
    exact vx_ret (h E hE p e (rmY Y mc ms) s m _ below meth c s.heap [] lh ⟨⟨B.exec, B.bytes, hml, findClass_of_methodNamed B.named, fun w hw => hts w (List.mem_cons_of_mem _ hw)⟩, ⟨B.returns, B.notSynchronized, hnm, htab⟩, ⟨Nat.le_refl _, Nat.le_refl _, Nat.le_refl _, Nat.le_refl _⟩, hEs⟩ hR va_S.rf hl hwf (sc_args _ _ hsa) sc_n)
  intro p e ha hc hkk s m args below hf happ hP hK
  obtain ⟨n, o, h1, h2, h3, h4⟩ := hv p e ha hc hkk s m args below hf happ hP hK
  refine ⟨n, o, h1, h2, h3, ?_⟩
  rcases h4 with h4 | ⟨q, q1, E1, ce, L, hx, q5⟩
  · exact h4
  · exact hx.elim
/-- a call of the class's own methods, which make no cell -/
theorem EvX.ofEv {sc : SC} {Y : MI} {args : List Value} {w : List PC} {mc ms : Nat} {K : Option Value → List PC → Prop} {K0 : RK → PS → Prop} (h : ∀ E, Ev E Y args (w, false) mc ms K0) (hp : ∀ rk S', K0 rk S' → ∃ v, rk = .inl v ∧ S'.2 = false ∧ (∀ x, v = some x → ∀ w', Sc w' x) ∧ Gr w S'.1 ∧ (WfW w → WfW S'.1) ∧ K v S'.1) : EvX sc Y args w mc ms K := fun E _ => by
  have hm := (h E).plain (fun cn S hq => by obtain ⟨v, e, -⟩ := hp _ _ hq; cases e)
  intro p e ha hc hkk s m args below hf happ hP hK
  obtain ⟨n, o, h1, h2, h3, ⟨⟨v, S', q1, q2, q3⟩, q4⟩, q5⟩ := hm p e ha hc hkk s m args below hf happ ⟨hP.1, hP.2.1, hP.2.2.1⟩ hK
  obtain ⟨v', e1, e2, e3, e4, e5, e6⟩ := hp _ _ q2
  cases Sum.inl.inj e1
  obtain ⟨w', f⟩ := S'
  cases (e2 : f = false)
  exact ⟨n, o, h1, h2, h3, ⟨⟨E, v, w', Ex.rfl', e4, e5 hP.2.2.2.1, fun x hx => e3 x hx w', q1, e6, q3⟩, q4⟩, q5⟩
section XCalls
variable {sc : SC} {Y Y' : MI} {mc ms mc' ms' pc k n i nA : Nat} {ls : List (Nat × Value)} {As rest : List Value} {ww : List PC} {K K' : Option Value → List PC → Prop}
theorem run_gx {E : EV} {p : Program} {e : Env} {R : Room} {s : State} {m : MethodId} {args : Array Value} {below : List Frame} {meth : Method} {c : Code} {H : Heap} {locs : List Loc} {lh : Array Slot} {a : Array Value} {st0 : List Value}
    (hE : SE sc E) (hr : va_Run p (eL E) e R s m args below meth c H locs k n mc' ms' (F0 m pc lh st0) (rest.map (gV E)) (QX E ww K' a) (eA E))
    (F : Fr E Y mc ms p R s m args meth c) (hS : va_S (eA E) s.heap H locs) (hl : lv_has lh (mLo Y) (gL E ls)) (hsl : ScL ww ls) (hrest : ScV ww rest)
    (hK : ∀ v w', K' v w' → GX sc Y mc ms (pc + 3) ls (v.toList ++ rest) w' (k + mc') (n + ms') K) :
    W p (eL E) e R s m args below meth c H locs k n (MQ below (QX E ww K) args s mc ms (eA E)) (F0 m pc lh st0) := by
  intro T hT X
  obtain ⟨v, st₀, t, T', L, h0, X', hL, e1, e2, ⟨⟨E', v', w', x1, x2, x3, x4, hv, hK', hR'⟩, hF⟩, st⟩ := hr T hT X
  have hv' : v = v'.map (gV E') := Outcome.returned.inj hv
  subst hv'
  obtain ⟨k1, k2, k3⟩ := vx_keep h0 e1 hS (fun q _ h => h) (fun q h => h) hL hF
  have hx := x1
  obtain ⟨ad, rfl, -⟩ := x1
  have F' : Fr (wAd E ad) Y mc ms p R s m args meth c := F
  have hsv : ScV w' (v'.toList ++ rest) := sc_app (fun y hy => (by
    cases v' with
    | none => cases hy
    | some z => rw [List.mem_singleton.mp hy]; exact x4 z rfl)) (hrest.gr x2)
  have G := hK _ _ hK' (wAd E ad) hE p e R s m args below meth c T'.heap (locs ++ L) lh F' (by rw [e1]; exact hR') k3 (by rw [gL_ex hx hsl]; exact hl) x3 (hsl.gr x2) hsv
  obtain ⟨t2, a1, b1⟩ := (W.up (MQ.up (QX.up hx x2)) G) T' rfl X'
  have e3 : (v'.toList ++ rest).map (gV (wAd E ad)) = (v'.map (gV (wAd E ad))).toList ++ rest.map (gV E) := by
    rw [List.map_append, mp_ex hx hrest]
    cases v' <;> rfl
  rw [e3] at a1
  exact ⟨t2, st t2 a1, b1⟩
theorem x_callV {b ci : Nat} {vs : List Value} (hd : decode (mBy Y) pc = .ok (.invokevirtual i, 3)) (hwl : LV (mNm Y).cls i (RC ci) Y' nA) (hf : Fits Y Y') (hci : ci < 18) (hb : b < XB) (hc : ww[b]? = some (ci, vs)) (hA : As.length = nA) (hr8 : (rest.map fun v => v.category).sum ≤ 8) (hk : k + mc' ≤ mc) (hn : n + ms' ≤ ms)
    (h : EvX sc Y' (.ref b :: As) ww mc' ms' K') (hK : ∀ v w', K' v w' → GX sc Y mc ms (pc + 3) ls (v.toList ++ rest) w' (k + mc') (n + ms') K) : GX sc Y mc ms pc ls (As.reverse ++ .ref b :: rest) ww k n K := by
  intro E hE p e R s m args below meth c H locs lh F hR hS hl hw hsl hst
  have hts := F.1.2.2.2.2
  have e1 : gV E (.ref b) = .ref (eP E b) := congrArg Value.ref (gA_in hb)
  have e2 : (As.reverse ++ .ref b :: rest).map (gV E) = (As.map (gV E)).reverse ++ .ref (eP E b) :: rest.map (gV E) := by rw [List.map_append, List.map_cons, e1, List.map_reverse]
  rw [e2]
  have hcell := cW_at (E := E) hc (Nat.lt_trans hci (by decide))
  rw [cE_obj (by omega)] at hcell
  have hrun := va_runV (p := p) (e := e) (below := below) (meth := meth) (locs := locs) (cells := k) (slots := n) (m := m) (g := F0 m pc lh ((As.map (gV E)).reverse ++ .ref (eP E b) :: rest.map (gV E))) (As := As.map (gV E)) (rest := rest.map (gV E)) (b := eP E b) (C := RC ci) (H := H)
    ⟨F.1.1, F.1.2.1, F.1.2.2.1, F.1.2.2.2.1, hts⟩ (h E hE) ⟨cB hwl.1 (hts _ hwl.2.1) hts hf F.2.2.1.1 F.2.2.1.2.1, hts _ hwl.2.2.1, hts _ hwl.2.2.2⟩
    ⟨fbX, va_recv F.2.2.2.1.1 hR.1 (CL_at ci hci) hcell, fun U hU hW => ⟨by rw [List.map_cons, e1], F.2.2.2.step hW (by rw [hU]; exact hS), by rw [hU]; exact hR, hw, sc_c (sc_h (sc_ar hst)) (sc_rev (sc_al hst))⟩⟩ rfl (by rw [List.length_map]; exact hA) hl.1 rfl (room_at (cats_le hr8)) hd ⟨Nat.le_trans hk F.2.2.1.2.2.1, Nat.le_trans hn F.2.2.1.2.2.2⟩
  exact run_gx hE hrun F hS hl hsl (sc_t (sc_ar hst)) hK
theorem x_callS (hd : decode (mBy Y) pc = .ok (.invokestatic i, 3)) (hwl : LQ (mNm Y).cls i Y' nA) (hf : Fits Y Y') (hA : As.length = nA) (hr8 : (rest.map fun v => v.category).sum ≤ 8) (hk : k + mc' ≤ mc) (hn : n + ms' ≤ ms)
    (h : EvX sc Y' As ww mc' ms' K') (hK : ∀ v w', K' v w' → GX sc Y mc ms (pc + 3) ls (v.toList ++ rest) w' (k + mc') (n + ms') K) : GX sc Y mc ms pc ls (As.reverse ++ rest) ww k n K := by
  intro E hE p e R s m args below meth c H locs lh F hR hS hl hw hsl hst
  have hts := F.1.2.2.2.2
  have e2 : (As.reverse ++ rest).map (gV E) = (As.map (gV E)).reverse ++ rest.map (gV E) := by rw [List.map_append, List.map_reverse]
  rw [e2]
  have hrun := va_runS (p := p) (e := e) (below := below) (meth := meth) (locs := locs) (cells := k) (slots := n) (m := m) (g := F0 m pc lh ((As.map (gV E)).reverse ++ rest.map (gV E))) (As := As.map (gV E)) (rest := rest.map (gV E)) (H := H)
    ⟨F.1.1, F.1.2.1, F.1.2.2.1, F.1.2.2.2.1, hts⟩ (h E hE) ⟨cB hwl.1 (hts _ hwl.2.1) hts hf F.2.2.1.1 F.2.2.1.2.1, hts _ hwl.2.2⟩
    ⟨fbX, fun U hU hW => ⟨rfl, F.2.2.2.step hW (by rw [hU]; exact hS), by rw [hU]; exact hR, hw, sc_rev (sc_al hst)⟩⟩ rfl (by rw [List.length_map]; exact hA) hl.1 rfl (room_at (cats_le hr8)) hd ⟨Nat.le_trans hk F.2.2.1.2.2.1, Nat.le_trans hn F.2.2.1.2.2.2⟩
  exact run_gx hE hrun F hS hl hsl (sc_ar hst) hK
theorem x_callI {b : Nat} (hd : decode (mBy Y) pc = .ok (.invokespecial i, 3)) (hwl : LI (mNm Y).cls i Y' nA) (hf : Fits Y Y') (hA : As.length = nA) (hr8 : (rest.map fun v => v.category).sum ≤ 8) (hk : k + mc' ≤ mc) (hn : n + ms' ≤ ms)
    (h : EvX sc Y' (.ref b :: As) ww mc' ms' K') (hK : ∀ v w', K' v w' → GX sc Y mc ms (pc + 3) ls (v.toList ++ rest) w' (k + mc') (n + ms') K) : GX sc Y mc ms pc ls (As.reverse ++ .ref b :: rest) ww k n K := by
  intro E hE p e R s m args below meth c H locs lh F hR hS hl hw hsl hst
  have hts := F.1.2.2.2.2
  have e2 : (As.reverse ++ .ref b :: rest).map (gV E) = (As.map (gV E)).reverse ++ .ref (gA E b) :: rest.map (gV E) := by rw [List.map_append, List.map_cons, List.map_reverse]; rfl
  rw [e2]
  have hB := cB (mc' := mc') (ms' := ms') hwl.1 (hts _ hwl.2.1) hts hf F.2.2.1.1 F.2.2.1.2.1
  rw [hwl.2.2.2.2] at hB
  have hrun := va_runI (p := p) (e := e) (below := below) (meth := meth) (locs := locs) (cells := k) (slots := n) (m := m) (g := F0 m pc lh ((As.map (gV E)).reverse ++ .ref (gA E b) :: rest.map (gV E))) (As := As.map (gV E)) (rest := rest.map (gV E)) (b := gA E b) (H := H)
    ⟨F.1.1, F.1.2.1, F.1.2.2.1, F.1.2.2.2.1, hts⟩ (h E hE) ⟨hB, hwl.2.2.2.1, hts _ hwl.2.2.1⟩
    ⟨fbX, fun U hU hW => ⟨rfl, F.2.2.2.step hW (by rw [hU]; exact hS), by rw [hU]; exact hR, hw, sc_c (sc_h (sc_ar hst)) (sc_rev (sc_al hst))⟩⟩ rfl (by rw [List.length_map]; exact hA) hl.1 rfl (room_at (cats_le hr8)) hd ⟨Nat.le_trans hk F.2.2.1.2.2.1, Nat.le_trans hn F.2.2.1.2.2.2⟩
  exact run_gx hE hrun F hS hl hsl (sc_t (sc_ar hst)) hK
theorem x_callIN {b : Nat} (hd : decode (mBy Y) pc = .ok (.invokespecial i, 3)) (hwl : LIN (mNm Y).cls i Y' nA) (hf : Fits Y Y') (hA : As.length = nA) (hr8 : (rest.map fun v => v.category).sum ≤ 8) (hk : k + mc' ≤ mc) (hn : n + ms' ≤ ms)
    (h : EvX sc Y' (.ref b :: As) ww mc' ms' K') (hK : ∀ v w', K' v w' → GX sc Y mc ms (pc + 3) ls (v.toList ++ rest) w' (k + mc') (n + ms') K) : GX sc Y mc ms pc ls (As.reverse ++ .ref b :: rest) ww k n K := by
  intro E hE p e R s m args below meth c H locs lh F hR hS hl hw hsl hst
  have hts := F.1.2.2.2.2
  obtain ⟨host, hh⟩ := hwl.2.1
  have e2 : (As.reverse ++ .ref b :: rest).map (gV E) = (As.map (gV E)).reverse ++ .ref (gA E b) :: rest.map (gV E) := by rw [List.map_append, List.map_cons, List.map_reverse]; rfl
  rw [e2]
  have hB := cN (mc' := mc') (ms' := ms') hwl.1 (F.2.2.2.2.2.2.2.1.1 _ hh) hts hf F.2.2.1.1 F.2.2.1.2.1
  rw [hwl.2.2.2.2] at hB
  have hrun := va_runIN (p := p) (e := e) (below := below) (meth := meth) (locs := locs) (cells := k) (slots := n) (m := m) (g := F0 m pc lh ((As.map (gV E)).reverse ++ .ref (gA E b) :: rest.map (gV E))) (As := As.map (gV E)) (rest := rest.map (gV E)) (b := gA E b) (H := H)
    ⟨F.1.1, F.1.2.1, F.1.2.2.1, F.1.2.2.2.1, hts⟩ (h E hE) ⟨hB, hwl.2.2.2.1, hts _ hwl.2.2.1⟩
    ⟨fbX, fun U hU hW => ⟨rfl, F.2.2.2.step hW (by rw [hU]; exact hS), by rw [hU]; exact hR, hw, sc_c (sc_h (sc_ar hst)) (sc_rev (sc_al hst))⟩⟩ rfl (by rw [List.length_map]; exact hA) hl.1 rfl (room_at (cats_le hr8)) hd ⟨Nat.le_trans hk F.2.2.1.2.2.1, Nat.le_trans hn F.2.2.1.2.2.2⟩
  exact run_gx hE hrun F hS hl hsl (sc_t (sc_ar hst)) hK
end XCalls
