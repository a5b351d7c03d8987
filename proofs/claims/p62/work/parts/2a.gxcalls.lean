/-! MOVING WORLDS: calls of every kind -/
/-- words of a call: the link, the method that the receiver's class selects -/
def LW (own : String) (i : Nat) (Y' : MI) (nA : Nat) : Prop := LB Y' nA ∧ Cond.methodLink own i (mNm Y') ∈ gtbl ∧ Cond.instanceMethod (mNm Y') ∈ gtbl
def SelX (C : String) (y : MethodName) : Prop := Cond.selects C y y ∈ gtbl ∨ (C = "java/lang/StringBuilder" ∧ y ∈ asbT)
section XCallX
variable {sc : SC} {Y Y' : MI} {mc ms mc' ms' pc k n i nA : Nat} {ls : List (Nat × Value)} {As rest : List Value} {ww : List PC} {K K' : Option Value → List PC → Prop}
theorem selX {E : EV} {p : Program} {R : Room} {s : State} {m : MethodId} {args : Array Value} {meth : Method} {c : Code} {C : String} {y : MethodName} (h : SelX C y) (F : Fr E Y mc ms p R s m args meth c) : (Cond.selects C y y).before args s = true := by
  rcases h with h | ⟨rfl, h⟩
  · exact F.1.2.2.2.2 _ h
  · exact va_Nw.use rfl (F.J.2.2.2.2.2.2.2.1 _ h)
theorem args_map {E : EV} {b : Nat} : (As.reverse ++ .ref b :: rest).map (gV E) = (As.map (gV E)).reverse ++ .ref (gA E b) :: rest.map (gV E) := by
  rw [List.map_append, List.map_cons, List.map_reverse]; rfl
theorem preX {E : EV} {p : Program} {R : Room} {s : State} {m : MethodId} {args : Array Value} {meth : Method} {c : Code} {H : Heap} {locs : List Loc} {b : Nat} {C : String} (hkx : Kx ww b C) (F : Fr E Y mc ms p R s m args meth c) (hR : Rep E (ww, false) 0 H) (hS : va_S (eA E) s.heap H locs) (hw : WfW ww) (hst : ScV ww (As.reverse ++ .ref b :: rest)) :
    PreV s H C (gA E b) (PcX E (.ref b :: As) ww) (As.map (gV E)) :=
  ⟨fbX, recvX hkx F hR hS, fun U hU hW => ⟨by rw [List.map_cons]; rfl, F.2.2.2.step hW (by rw [hU]; exact hS), by rw [hU]; exact hR, hw, sc_c (sc_h (sc_ar hst)) (sc_rev (sc_al hst))⟩⟩
theorem x_callX {b : Nat} {C : String} (hd : decode (mBy Y) pc = .ok (.invokevirtual i, 3)) (hwl : LW (mNm Y).cls i Y' nA) (hs : SelX C (mNm Y')) (hf : Fits Y Y') (hkx : Kx ww b C) (hA : As.length = nA) (hr8 : (rest.map fun v => v.category).sum ≤ 8) (hk : k + mc' ≤ mc) (hn : n + ms' ≤ ms)
    (h : EvX sc Y' (.ref b :: As) ww mc' ms' K') (hK : ∀ v w', K' v w' → GX sc Y mc ms (pc + 3) ls (v.toList ++ rest) w' (k + mc') (n + ms') K) : GX sc Y mc ms pc ls (As.reverse ++ .ref b :: rest) ww k n K := by
  intro E hE p e R s m args below meth c H locs lh F hR hS hl hw hsl hst
  have hts := F.1.2.2.2.2
  rw [args_map]
  have hrun := va_runV (p := p) (e := e) (below := below) (meth := meth) (locs := locs) (cells := k) (slots := n) (m := m) (g := F0 m pc lh ((As.map (gV E)).reverse ++ .ref (gA E b) :: rest.map (gV E))) (As := As.map (gV E)) (rest := rest.map (gV E)) (b := gA E b) (C := C) (H := H)
    ⟨F.1.1, F.1.2.1, F.1.2.2.1, F.1.2.2.2.1, hts⟩ (h E hE) ⟨cB hwl.1 (hts _ hwl.2.1) hts hf F.2.2.1.1 F.2.2.1.2.1, hts _ hwl.2.2, selX hs F⟩
    (preX hkx F hR hS hw hst) rfl (by rw [List.length_map]; exact hA) hl.1 rfl (room_at (cats_le hr8)) hd ⟨Nat.le_trans hk F.2.2.1.2.2.1, Nat.le_trans hn F.2.2.1.2.2.2⟩
  exact run_gx hE hrun F hS hl hsl (sc_t (sc_ar hst)) hK
/-- the reference names x, the receiver's class selects another -/
theorem x_callU {b m0 : Nat} {C : String} {x : MethodName} {b0 : ByteArray} {r0 : Option FieldType} (hd : decode (mBy Y) pc = .ok (.invokevirtual i, 3)) (hB : LB Y' nA) (hl0 : Cond.methodLink (mNm Y).cls i x ∈ gtbl) (hsm : Cond.sameMethod x.cls x.cls x.name x.desc ∈ gtbl) (hi0 : Cond.instanceMethod x ∈ gtbl) (hc0 : Cond.code x b0 m0 r0 ∈ gtbl) (hsl0 : Cond.selects C x (mNm Y') ∈ gtbl) (hin0 : Cond.instanceMethod (mNm Y') ∈ gtbl) (hds : x.desc = (mNm Y').desc) (hx : x.cls ≠ "java/lang/invoke/MethodHandle" ∧ x.cls ≠ "java/lang/invoke/VarHandle")
    (hf : Fits Y Y') (hkx : Kx ww b C) (hA : As.length = nA) (hr8 : (rest.map fun v => v.category).sum ≤ 8) (hk : k + mc' ≤ mc) (hn : n + ms' ≤ ms)
    (h : EvX sc Y' (.ref b :: As) ww mc' ms' K') (hK : ∀ v w', K' v w' → GX sc Y mc ms (pc + 3) ls (v.toList ++ rest) w' (k + mc') (n + ms') K) : GX sc Y mc ms pc ls (As.reverse ++ .ref b :: rest) ww k n K := by
  intro E hE p e R s m args below meth c H locs lh F hR hS hl hw hsl hst
  have hts := F.1.2.2.2.2
  rw [args_map]
  have hcu : va_CU R s args (mNm Y).cls C x.cls i x (mNm Y') (mBy Y') (mLo Y') (mRt Y') (wd Y') (rmY Y' mc' ms') mc' ms' nA := by
    obtain ⟨l1, l2, l3, l4⟩ := hB
    refine ⟨⟨rfl, rfl, Nat.le_trans hf.1 F.2.2.1.1, Nat.le_trans hf.2 F.2.2.1.2.1, wd_good l2 hts, List.mem_cons_self⟩, hts _ l2, hts _ l1, hx, fun sig h => ?_, hts _ hl0, hts _ hsm, va_Decl.of (hts _ hi0) (hts _ hc0), hts _ hsl0, hts _ hin0⟩
    rw [← hds, h] at l4
    exact (Option.some.inj l4).symm
  have hrun := va_runU (p := p) (e := e) (below := below) (meth := meth) (locs := locs) (cells := k) (slots := n) (m := m) (g := F0 m pc lh ((As.map (gV E)).reverse ++ .ref (gA E b) :: rest.map (gV E))) (As := As.map (gV E)) (rest := rest.map (gV E)) (b := gA E b) (C := C) (H := H) (Ts := gtbl)
    ⟨F.1.1, F.1.2.1, F.1.2.2.1, F.1.2.2.2.1, hts⟩ (h E hE) hcu
    (preX hkx F hR hS hw hst) rfl (by rw [List.length_map]; exact hA) hl.1 rfl (room_at (cats_le hr8)) hd ⟨Nat.le_trans hk F.2.2.1.2.2.1, Nat.le_trans hn F.2.2.1.2.2.2⟩
  exact run_gx hE hrun F hS hl hsl (sc_t (sc_ar hst)) hK
/-- a method of the superclass, called as such -/
theorem x_callSU {b N0 : Nat} {C : String} (hd : decode (mBy Y) pc = .ok (.invokespecial i, 3)) (hwl : LW (mNm Y).cls i Y' nA) (hsm : Cond.sameMethod (mNm Y').cls (mNm Y').cls (mNm Y').name (mNm Y').desc ∈ gtbl) (hsu : Cond.superclass (mNm Y).cls (mNm Y').cls ∈ gtbl) (hno : (mNm Y').name ≠ "<init>") (hins : Cond.instantiable C N0 ∈ gtbl)
    (hf : Fits Y Y') (hkx : Kx ww b C) (hA : As.length = nA) (hr8 : (rest.map fun v => v.category).sum ≤ 8) (hk : k + mc' ≤ mc) (hn : n + ms' ≤ ms)
    (h : EvX sc Y' (.ref b :: As) ww mc' ms' K') (hK : ∀ v w', K' v w' → GX sc Y mc ms (pc + 3) ls (v.toList ++ rest) w' (k + mc') (n + ms') K) : GX sc Y mc ms pc ls (As.reverse ++ .ref b :: rest) ww k n K := by
  intro E hE p e R s m args below meth c H locs lh F hR hS hl hw hsl hst
  have hts := F.1.2.2.2.2
  rw [args_map]
  obtain ⟨cC, hat⟩ := classAt_of (hts _ hins)
  have hcs : va_CS R s args (mNm Y).cls i (mNm Y') (mBy Y') (mLo Y') (mRt Y') (wd Y') (rmY Y' mc' ms') mc' ms' nA := by
    obtain ⟨⟨l1, l2, l3, l4⟩, l5, l6⟩ := hwl
    refine ⟨⟨rfl, rfl, Nat.le_trans hf.1 F.2.2.1.1, Nat.le_trans hf.2 F.2.2.1.2.1, wd_good l2 hts, List.mem_cons_self⟩, hts _ l5, hts _ hsm, hts _ hsu, hts _ l6, hts _ l1, hts _ l2, hno, fun sig h => ?_⟩
    rw [h] at l4
    exact (Option.some.inj l4).symm
  have hrun := va_runSU (p := p) (e := e) (below := below) (meth := meth) (locs := locs) (cells := k) (slots := n) (m := m) (g := F0 m pc lh ((As.map (gV E)).reverse ++ .ref (gA E b) :: rest.map (gV E))) (As := As.map (gV E)) (rest := rest.map (gV E)) (b := gA E b) (C := C) (H := H) (Ts := gtbl) hat
    ⟨F.1.1, F.1.2.1, F.1.2.2.1, F.1.2.2.2.1, hts⟩ (h E hE) hcs
    (preX hkx F hR hS hw hst) rfl (by rw [List.length_map]; exact hA) hl.1 rfl (room_at (cats_le hr8)) hd ⟨Nat.le_trans hk F.2.2.1.2.2.1, Nat.le_trans hn F.2.2.1.2.2.2⟩
  exact run_gx hE hrun F hS hl hsl (sc_t (sc_ar hst)) hK
theorem run_gx5 {E : EV} {p : Program} {e : Env} {R : Room} {s : State} {m : MethodId} {args : Array Value} {below : List Frame} {meth : Method} {c : Code} {H : Heap} {locs : List Loc} {lh : Array Slot} {a : Array Value} {st0 : List Value}
    (hE : SE sc E) (hr : va_Run5 p (eL E) e R s m args below meth c H locs k n mc' ms' (F0 m pc lh st0) (rest.map (gV E)) (QX E ww K' a) (eA E))
    (F : Fr E Y mc ms p R s m args meth c) (hS : va_S (eA E) s.heap H locs) (hl : lv_has lh (mLo Y) (gL E ls)) (hsl : ScL ww ls) (hrest : ScV ww rest)
    (hK : ∀ v w', K' v w' → GX sc Y mc ms (pc + 5) ls (v.toList ++ rest) w' (k + mc') (n + ms') K) :
    W p (eL E) e R s m args below meth c H locs k n (MQ below (QX E ww K) args s mc ms (eA E)) (F0 m pc lh st0) := by
  intro T hT X
  obtain ⟨v, st₀, t, T', L, h0, X', hL, e1, e2, ⟨⟨E', v', w', x1, x2, x3, x4, hv, hK', hR'⟩, hF⟩, st⟩ := hr T hT X
  have hv' : v = v'.map (gV E') := Outcome.returned.inj hv
  subst hv'
  obtain ⟨k1, k2, k3⟩ := vx_keep h0 e1 hS (fun q _ h => h) (fun q h => h) hL hF
  have hx := x1
  obtain ⟨ad, rfl, -⟩ := x1
  have F' : Fr (wAd E ad) Y mc ms p R s m args meth c := F
  have hsv : ScV w' (v'.toList ++ rest) := sc_app (fun y hy => (by
    cases v' with
    | none => cases hy
    | some z => rw [List.mem_singleton.mp hy]; exact x4 z rfl)) (hrest.gr x2)
  have G := hK _ _ hK' (wAd E ad) hE p e R s m args below meth c T'.heap (locs ++ L) lh F' (by rw [e1]; exact hR') k3 (by rw [gL_ex hx hsl]; exact hl) x3 (hsl.gr x2) hsv
  obtain ⟨t2, a1, b1⟩ := (W.up (MQ.up (QX.up hx x2)) G) T' rfl X'
  have e3 : (v'.toList ++ rest).map (gV (wAd E ad)) = (v'.map (gV (wAd E ad))).toList ++ rest.map (gV E) := by
    rw [List.map_append, mp_ex hx hrest]
    cases v' <;> rfl
  rw [e3] at a1
  exact ⟨t2, st t2 a1, b1⟩
/-- a call through Iterator -/
theorem x_callF {b cnt N0 : Nat} {x : MethodName} (hd : decode (mBy Y) pc = .ok (.invokeinterface i cnt, 5)) (hB : LB Y' nA) (hit : (x, mNm Y') ∈ itT) (hl0 : Cond.methodLink (mNm Y).cls i x ∈ gtbl) (hsl0 : Cond.selects "java/util/ArrayList$Itr" x (mNm Y') ∈ gtbl) (hin0 : Cond.instanceMethod (mNm Y') ∈ gtbl) (hds : x.desc = (mNm Y').desc) (hins : Cond.instantiable "java/util/ArrayList$Itr" N0 ∈ gtbl)
    (hf : Fits Y Y') (hkx : Kx ww b "java/util/ArrayList$Itr") (hA : As.length = nA) (hr8 : (rest.map fun v => v.category).sum ≤ 8) (hk : k + mc' ≤ mc) (hn : n + ms' ≤ ms)
    (h : EvX sc Y' (.ref b :: As) ww mc' ms' K') (hK : ∀ v w', K' v w' → GX sc Y mc ms (pc + 5) ls (v.toList ++ rest) w' (k + mc') (n + ms') K) : GX sc Y mc ms pc ls (As.reverse ++ .ref b :: rest) ww k n K := by
  intro E hE p e R s m args below meth c H locs lh F hR hS hl hw hsl hst
  have hts := F.1.2.2.2.2
  rw [args_map]
  obtain ⟨cC, hat⟩ := classAt_of (hts _ hins)
  have hFw := F.J.2.2.2.2.2.2.1 _ hit
  have hci : va_CI R s args (mNm Y).cls "java/util/ArrayList$Itr" i x (mNm Y') (mBy Y') (mLo Y') (mRt Y') (wd Y') (rmY Y' mc' ms') mc' ms' nA := by
    obtain ⟨l1, l2, l3, l4⟩ := hB
    refine ⟨⟨rfl, rfl, Nat.le_trans hf.1 F.2.2.1.1, Nat.le_trans hf.2 F.2.2.1.2.1, wd_good l2 hts, List.mem_cons_self⟩, hts _ hl0, va_any rfl hFw.1, va_any rfl hFw.2.1, hts _ hsl0, hts _ hin0, va_any rfl hFw.2.2.1, va_any rfl hFw.2.2.2.1, va_any rfl hFw.2.2.2.2, hts _ l1, hts _ l2, itT_ok _ hit, fun sig h => ?_⟩
    rw [← hds, h] at l4
    exact (Option.some.inj l4).symm
  have hrun := va_runF (p := p) (e := e) (below := below) (meth := meth) (locs := locs) (cells := k) (slots := n) (m := m) (g := F0 m pc lh ((As.map (gV E)).reverse ++ .ref (gA E b) :: rest.map (gV E))) (As := As.map (gV E)) (rest := rest.map (gV E)) (b := gA E b) (C := "java/util/ArrayList$Itr") (H := H) (Ts := gtbl) hat
    ⟨F.1.1, F.1.2.1, F.1.2.2.1, F.1.2.2.2.1, hts⟩ (h E hE) hci
    (preX hkx F hR hS hw hst) rfl (by rw [List.length_map]; exact hA) hl.1 rfl (room_at (cats_le hr8)) hd ⟨Nat.le_trans hk F.2.2.1.2.2.1, Nat.le_trans hn F.2.2.1.2.2.2⟩
  exact run_gx5 hE hrun F hS hl hsl (sc_t (sc_ar hst)) hK
end XCallX
