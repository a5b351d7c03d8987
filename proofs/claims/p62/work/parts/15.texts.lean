theorem q_acN : Cond.native arraycopyName ∈ gtbl := q_655
theorem q_acS : Cond.static arraycopyName ∈ gtbl := q_654
theorem q_acI : Cond.initialized "java/lang/System" ∈ gtbl := q_31
theorem qf_cs : Cond.fieldLink "java/lang/String" 38 "java/lang/String" "COMPACT_STRINGS" "Z" ∈ gtbl := q_488
theorem qf_co : Cond.fieldLink "java/lang/String" 15 "java/lang/String" "coder" "B" ∈ gtbl := q_1461
theorem qf_va : Cond.fieldLink "java/lang/String" 9 "java/lang/String" "value" "[B" ∈ gtbl := q_1460
theorem qf_sf : Cond.fieldLink "java/lang/String" 1053 "jdk/internal/util/Preconditions" "SIOOBE_FORMATTER" "Ljava/util/function/BiFunction;" ∈ gtbl := q_504
/-! TEXT CONSTANTS, a static field, a row copied -/
section Texts
variable {E : EV} {Y : MI} {mc ms pc k n i j : Nat} {ls : List (Nat × Value)} {st : List Value} {S : PS} {K : RK → PS → Prop}
theorem gA_K (E : EV) {j : Nat} (h : j < nLit) : gA E (XB + j) = eK E j := by
  have h2 : nLit ≤ 100 := Nat.le_of_ble_eq_true rfl
  unfold gA
  rw [if_neg (by omega), if_pos (by omega), Nat.add_sub_cancel_left]
theorem gA_V (E : EV) {j : Nat} (h : j < nLit) : gA E (XB + 100 + j) = eV E j := by
  have h2 : nLit ≤ 100 := Nat.le_of_ble_eq_true rfl
  unfold gA
  rw [if_neg (by omega), if_neg (by omega), if_pos (by omega), Nat.add_sub_cancel_left]
theorem litLt : ∀ q ∈ litT, q.2.2.2 < nLit := by decide +kernel
theorem g_ldcS {own text : String} (ho : (mNm Y).cls = own) (hd : decode (mBy Y) pc = .ok (.ldc i, 2)) (hm : (own, i, text, j) ∈ litT) (h : Go E Y mc ms (pc + 2) ls (.ref (XB + j) :: st) S k n K) : Go E Y mc ms pc ls st S k n K := by
  intro p e R s m args below meth c H locs lh F hR hS hl
  have hj := litLt _ hm
  have h1 := F.2.2.2.2.2.2.2.2.1.2.1 _ hm
  have e1 : gV E (.ref (XB + j)) = .ref (eK E j) := congrArg Value.ref (gA_K E hj)
  have q := h p e R s m args below meth c H locs lh F hR hS hl
  rw [List.map_cons, e1] at q
  subst ho
  exact va_ldcS F.1.1 F.1.2.1 F.1.2.2.2.1 h1 hd q
theorem g_strV (hd : decode (mBy Y) pc = .ok (.getfield i, 3)) (hw : Cond.fieldLink (mNm Y).cls i "java/lang/String" "value" "[B" ∈ gtbl) (hj : j < nLit) (h : Go E Y mc ms (pc + 3) ls (.ref (XB + 100 + j) :: st) S k n K) : Go E Y mc ms pc ls (.ref (XB + j) :: st) S k n K := by
  intro p e R s m args below meth c H locs lh F hR hS hl
  have e1 : gV E (.ref (XB + j)) = .ref (eK E j) := congrArg Value.ref (gA_K E hj)
  have e2 : gV E (.ref (XB + 100 + j)) = .ref (eV E j) := congrArg Value.ref (gA_V E hj)
  have q := h p e R s m args below meth c H locs lh F hR hS hl
  rw [List.map_cons, e2] at q
  rw [List.map_cons, e1]
  exact vk_getf F.1.1 F.1.2.1 (F.2.2.2.2.2.2.2.2.1.1.1 j hj).2.2.1 hS F.1.2.2.2.1 (F.1.2.2.2.2 _ hw) (fun x hx => hx) hd q
theorem g_strC (hd : decode (mBy Y) pc = .ok (.getfield i, 3)) (hw : Cond.fieldLink (mNm Y).cls i "java/lang/String" "coder" "B" ∈ gtbl) (hj : j < nLit) (h : Go E Y mc ms (pc + 3) ls (.int 0 :: st) S k n K) : Go E Y mc ms pc ls (.ref (XB + j) :: st) S k n K := by
  intro p e R s m args below meth c H locs lh F hR hS hl
  have e1 : gV E (.ref (XB + j)) = .ref (eK E j) := congrArg Value.ref (gA_K E hj)
  have q := h p e R s m args below meth c H locs lh F hR hS hl
  rw [List.map_cons] at q
  rw [List.map_cons, e1]
  exact vk_getf F.1.1 F.1.2.1 (F.2.2.2.2.2.2.2.2.1.1.1 j hj).2.1 hS F.1.2.2.2.1 (F.1.2.2.2.2 _ hw) (fun x hx => hx) hd q
theorem g_compact (hd : decode (mBy Y) pc = .ok (.getstatic i, 3)) (hw : Cond.fieldLink (mNm Y).cls i "java/lang/String" "COMPACT_STRINGS" "Z" ∈ gtbl) (h : Go E Y mc ms (pc + 3) ls (.int 1 :: st) S k n K) : Go E Y mc ms pc ls st S k n K := by
  intro p e R s m args below meth c H locs lh F hR hS hl
  exact va_gets F.1.1 F.1.2.1 F.2.2.2.2.2.2.2.2.1.2.2.1 hS F.1.2.2.2.1 (F.1.2.2.2.2 _ hw) (fun x hx => hx) hd (h p e R s m args below meth c H locs lh F hR hS hl)
theorem g_litlen {v : Int32} (hd : decode (mBy Y) pc = .ok (.arraylength, 1)) (hj : j < nLit) (hv : Int32.ofNat (lenS.getD j 0) = v) (h : Go E Y mc ms (pc + 1) ls (.int v :: st) S k n K) : Go E Y mc ms pc ls (.ref (XB + 100 + j) :: st) S k n K := by
  intro p e R s m args below meth c H locs lh F hR hS hl
  have e2 : gV E (.ref (XB + 100 + j)) = .ref (eV E j) := congrArg Value.ref (gA_V E hj)
  rw [List.map_cons, e2]
  exact va_tlen F.1.1 F.1.2.1 (F.2.2.2.2.2.2.2.2.1.1.1 j hj).2.2.2 hS hv hd (h p e R s m args below meth c H locs lh F hR hS hl)
theorem g_litld {x : Int32} (hd : decode (mBy Y) pc = .ok (.baload, 1)) (hj : j < nLit) (h0 : 0 ≤ x.toInt) (h1 : x.toInt.toNat < lenS.getD j 0) (h : Go E Y mc ms (pc + 1) ls (.int ((bytS.getD j []).getD x.toInt.toNat 0) :: st) S k n K) : Go E Y mc ms pc ls (.int x :: .ref (XB + 100 + j) :: st) S k n K := by
  intro p e R s m args below meth c H locs lh F hR hS hl
  have e2 : gV E (.ref (XB + 100 + j)) = .ref (eV E j) := congrArg Value.ref (gA_V E hj)
  rw [List.map_cons, List.map_cons, e2]
  exact va_tb F.1.1 F.1.2.1 (F.2.2.2.2.2.2.2.2.1.1.1 j hj).2.2.2 hS (vp_in_iff.mpr ⟨h0, by omega⟩) rfl hd (by rw [clamp_eq]; exact h p e R s m args below meth c H locs lh F hR hS hl)
theorem g_copy {a b N : Nat} {va vb : List Value} {x : Int32} (hd : decode (mBy Y) pc = .ok (.invokestatic i, 3)) (hw : Cond.methodLink (mNm Y).cls i arraycopyName ∈ gtbl) (hF : 1 ≤ mFr Y) (hr8 : (st.map fun v => v.category).sum + 18 ≤ mWd Y)
    (ha : a < XB) (hb : b < XB) (hca : S.1[a]? = some (100 + 0, va)) (hcb : S.1[b]? = some (100 + 0, vb)) (hla : va.length = N) (hlb : vb.length = N) (hx : x.toInt = (N : Int))
    (h : Go E Y mc ms (pc + 3) ls st (S.1.set b (100 + 0, va), S.2) k n K) : Go E Y mc ms pc ls (.int x :: .int 0 :: .ref b :: .int 0 :: .ref a :: st) S k n K := by
  intro p e R s m args below meth c H locs lh F hR hS hl
  have hts := F.1.2.2.2.2
  have e1 : gV E (.ref a) = .ref (eP E a) := congrArg Value.ref (gA_in ha)
  have e2 : gV E (.ref b) = .ref (eP E b) := congrArg Value.ref (gA_in hb)
  show W p (eL E) e R s m args below meth c H locs k n _ (F0 m pc lh (.int x :: .int 0 :: gV E (.ref b) :: .int 0 :: gV E (.ref a) :: st.map (gV E)))
  rw [e1, e2]
  have hxn : x.toNatClampNeg = N := by show x.toInt.toNat = N; omega
  refine va_copyi F.1.1 F.1.2.1 (hl.1.trans F.1.2.2.1.symm).symm F.1.2.2.2.1 (hts _ hw) (hts _ q_acN) (hts _ q_acS) (hts _ q_acI) F.2.2.2.1.1 hR.1 hR.2 hS (cX S.1 a) (cX S.1 b) 0 0 (arr_at hca (by decide)) (arr_at hcb (by decide)) (eT_at 0 (by decide)) (eT_at 0 (by decide)) rfl (sp := 0) (dp := 0) (n := x) (by decide) (by decide) (fun q => ?_) ?_ ?_ (fun _ _ => rfl) (Nat.le_trans hF F.2.2.1.1) ?_ hd (fun H1 locs1 hP1 hD1 hS1 => ?_)
  · have := Int32.lt_iff_toInt_lt.mp q
    simp at this
    omega
  · rw [hxn, hla]; exact Nat.le_of_eq (Nat.zero_add N)
  · rw [hxn, hlb]; exact Nat.le_of_eq (Nat.zero_add N)
  · rw [gV_cats]
    have := F.2.2.1.2.1
    show _ + 18 ≤ R.locals
    omega
  refine h p e R s m args below meth c H1 locs1 lh F ?_ hS1 hl
  refine Rep.setq (c' := (100 + 0, va)) ?_ hR.2 hcb (Nat.le_of_ble_eq_true rfl) (Nat.le_of_ble_eq_true rfl)
  rw [cE_arr]
  have e3 : va_cpy (fun j => vInt (va.getD j .null)) (fun j => vInt (vb.getD j .null)) (0 : Int32).toNatClampNeg (0 : Int32).toNatClampNeg x.toNatClampNeg = fun j => vInt (va.getD j .null) := by
    funext j
    rw [hxn]
    show (if 0 ≤ j ∧ j < 0 + N then vInt (va.getD (0 + (j - 0)) .null) else vInt (vb.getD j .null)) = _
    by_cases hj : j < N
    · rw [if_pos ⟨Nat.zero_le _, by omega⟩, Nat.zero_add, Nat.sub_zero]
    · rw [if_neg (by omega), List.getD_eq_getElem?_getD, List.getD_eq_getElem?_getD, List.getElem?_eq_none (by omega), List.getElem?_eq_none (by omega)]
  show va_P (eD E) CL ((cW E S.1).set (cX S.1 b) (eP E b, .inl (eC E 0, va.length, .inl (fun j => vInt (va.getD j .null))))) H1
  rw [← e3, hla, ← hlb]
  exact hP1
theorem gA_o (E : EV) (a : Nat) : gA E (XB + 1000 + a) = a := by
  unfold gA
  rw [if_neg (by omega), if_neg (by omega), if_neg (by omega), if_neg (by omega), if_neg (by omega), Nat.add_sub_cancel_left]
theorem g_getsQ (hd : decode (mBy Y) pc = .ok (.getstatic i, 3)) (hw : Cond.fieldLink (mNm Y).cls i "jdk/internal/util/Preconditions" "SIOOBE_FORMATTER" "Ljava/util/function/BiFunction;" ∈ gtbl) (h : ∀ v : Value, (v = .null ∨ ∃ t, v = .ref t) → Go E Y mc ms (pc + 3) ls (v :: st) S k n K) : Go E Y mc ms pc ls st S k n K := by
  intro p e R s m args below meth c H locs lh F hR hS hl
  rcases F.2.2.2.2.2.2.2.2.1.2.2.2 with hz | ⟨t, hz⟩
  · exact va_gets F.1.1 F.1.2.1 hz hS F.1.2.2.2.1 (F.1.2.2.2.2 _ hw) (fun x hx => hx) hd (h .null (.inl rfl) p e R s m args below meth c H locs lh F hR hS hl)
  · have q := h (.ref (XB + 1000 + t)) (.inr ⟨_, rfl⟩) p e R s m args below meth c H locs lh F hR hS hl
    have e2 : gV E (.ref (XB + 1000 + t)) = .ref t := congrArg Value.ref (gA_o E t)
    rw [List.map_cons, e2] at q
    exact va_gets F.1.1 F.1.2.1 hz hS F.1.2.2.2.1 (F.1.2.2.2.2 _ hw) (fun x hx => hx) hd q
theorem g_i2c {x v : Int32} (hd : decode (mBy Y) pc = .ok (.i2c, 1)) (hv : (x.toUInt32 % 65536).toInt32 = v) (h : Go E Y mc ms (pc + 1) ls (.int v :: st) S k n K) : Go E Y mc ms pc ls (.int x :: st) S k n K := fun p e R s m args below meth c H locs lh F hR hS hl => lv_i2c F.1.1 F.1.2.1 hd hv (h p e R s m args below meth c H locs lh F hR hS hl)
/-- a method of a text constant -/
def LVs (own : String) (i : Nat) (Y' : MI) (nA : Nat) : Prop := LV own i "java/lang/String" Y' nA
theorem g_callVS {Y' : MI} {mc' ms' nA : Nat} {As rest : List Value} (hd : decode (mBy Y) pc = .ok (.invokevirtual i, 3)) (hw : LVs (mNm Y).cls i Y' nA) (hf : Fits Y Y') (hj : j < nLit) (hA : As.length = nA) (hr8 : (rest.map fun v => v.category).sum ≤ 8) (hk : k + mc' ≤ mc) (hn : n + ms' ≤ ms)
    (h : Ev E Y' (.ref (XB + j) :: As) S mc' ms' (KC E Y mc ms (pc + 3) ls rest S.2 (k + mc') (n + ms') K)) : Go E Y mc ms pc ls (As.reverse ++ .ref (XB + j) :: rest) S k n K := by
  intro p e R s m args below meth c H locs lh F hR hS hl
  refine W.sz (fun hz => ?_)
  have hts := F.1.2.2.2.2
  have e1 : gV E (.ref (XB + j)) = .ref (eK E j) := congrArg Value.ref (gA_K E hj)
  have e2 : (As.reverse ++ .ref (XB + j) :: rest).map (gV E) = (As.map (gV E)).reverse ++ .ref (eK E j) :: rest.map (gV E) := by rw [List.map_append, List.map_cons, e1, List.map_reverse]
  rw [e2]
  have hrun := vx_runV (p := p) (e := e) (below := below) (meth := meth) (locs := locs) (cells := k) (slots := n) (m := m) (g := F0 m pc lh ((As.map (gV E)).reverse ++ .ref (eK E j) :: rest.map (gV E))) (As := As.map (gV E)) (rest := rest.map (gV E)) (b := eK E j) (C := "java/lang/String") (H := H)
    ⟨F.1.1, F.1.2.1, F.1.2.2.1, F.1.2.2.2.1, hts⟩ h ⟨cB hw.1 (hts _ hw.2.1) hts hf F.2.2.1.1 F.2.2.1.2.1, hts _ hw.2.2.1, hts _ hw.2.2.2⟩
    ⟨frb, vk_recv F.2.2.2.2.2.2.2.2.1.1 hj hS, fun U hU hW => by have := PcA_of (args := .ref (XB + j) :: As) F.2.2.2 hR hz hS hU hW; rw [List.map_cons, e1] at this; exact this⟩ rfl (by rw [List.length_map]; exact hA) hl.1 rfl (room_at (cats_le hr8)) hd ⟨Nat.le_trans hk F.2.2.1.2.2.1, Nat.le_trans hn F.2.2.1.2.2.2⟩
  exact run_go hrun F hR hS hl hk hn
end Texts
section VTexts
variable {E : EV} {Y Y' : MI} {X : XT} {mc ms mc' ms' pc k n i nA : Nat} {ls : List (Nat × Value)} {st As rest : List Value} {S S' : St} {K K' : RK → PS → Prop}
theorem gmX_cp {X : XT} {S : St} {a b N : Nat} (ha : HA X 0 N a) (hb : HA X 0 N b) : gmX X (cpI S a b N) = (gmX X S).set b (100, sl S a) := by
  refine gmX_set hb.2.2.1 ?_ (fun x hx => sl_congr (fun f => if_neg (fun q => hx q.1)) (fun _ => rfl) (fun _ => rfl))
  rw [hb.2.2.2.1]
  congr 1
  unfold sl
  rw [if_neg (by rw [hb.2.2.2.1]; omega), if_neg (by rw [ha.2.2.2.1]; omega), ha.2.2.2.2, hb.2.2.2.2]
  refine List.map_congr_left (fun f hf => ?_)
  rw [av_int hb.is (by decide), av_int ha.is (by decide)]
  exact congrArg Value.int (if_pos ⟨rfl, List.mem_range.mp hf⟩)
theorem vg_copy {a b N : Nat} {S1 : St} (hd : decode (mBy Y) pc = .ok (.invokestatic i, 3)) (hw : Cond.methodLink (mNm Y).cls i arraycopyName ∈ gtbl) (hF : 1 ≤ mFr Y) (hr8 : (st.map fun v => v.category).sum + 18 ≤ mWd Y) (hN : Nat.ble N 99999 = true) (ha : HA X 0 N a) (hb : HA X 0 N b) (e : S1 = cpI S a b N)
    (h : Go E Y mc ms (pc + 3) ls st (WX X S1) k n K) : Go E Y mc ms pc ls (V (N : Int) :: V 0 :: .ref b :: V 0 :: .ref a :: st) (WX X S) k n K := by
  subst e
  refine g_copy (N := N) hd hw hF hr8 ha.lt hb.lt (ha.at S) (hb.at S) (sl_Alen ha.is) (sl_Alen hb.is) (I_toInt (inR_nat hN)) ?_
  unfold WX at h
  rw [gmX_cp ha hb] at h
  exact h
theorem vg_cVS {j : Nat} (hd : decode (mBy Y) pc = .ok (.invokevirtual i, 3)) (hw : LVs (mNm Y).cls i Y' nA) (hf : Fits Y Y') (hj : j < nLit) (hA : As.length = nA) (hr8 : (rest.map fun v => v.category).sum ≤ 8) (hk : k + mc' ≤ mc) (hn : n + ms' ≤ ms)
    (hE : Ev E Y' (.ref (XB + j) :: As) (WX X S) mc' ms' K') (hK : ∀ rk w, K' rk w → KC E Y mc ms (pc + 3) ls rest X.2.2.2 (k + mc') (n + ms') K rk w) : Go E Y mc ms pc ls (As.reverse ++ .ref (XB + j) :: rest) (WX X S) k n K :=
  g_callVS hd hw hf hj hA hr8 hk hn (hE.mono hK)
def lenW (j : Nat) : Int := ((lenS.getD j 0 : Nat) : Int)
def chW (j i : Nat) : Int := ((bytS.getD j []).getD i 0).toInt
def fn_String_length (w0 : Nat) (_ : St) : Option Int := some (lenW w0)
def fn_String_charAt (w0 : Nat) (a1 : Int) (_ : St) : Option Int := if 0 ≤ a1 ∧ a1 < lenW w0 then some (chW w0 a1.toNat) else none
theorem lenW_lt : ∀ j, j < nLit → lenS.getD j 0 < 100 := by decide +kernel
theorem lenW_in {j : Nat} (h : j < nLit) : inR (lenW j) := by have := lenW_lt j h; unfold lenW inR; omega
theorem lenW_sh : ∀ j, j < nLit → i_shr (lenW j) 0 = lenW j := by decide +kernel
theorem chW_at : ∀ j, j < nLit → ∀ i, i < lenS.getD j 0 → ((((bytS.getD j []).getD i 0) &&& Int32.ofInt 255).toUInt32 % 65536).toInt32 = (bytS.getD j []).getD i 0 := by decide +kernel
theorem chW_nar : ∀ j, j < nLit → ∀ i, i < lenS.getD j 0 → narrow .char (.int ((bytS.getD j []).getD i 0)) = .int ((bytS.getD j []).getD i 0) := by decide +kernel
theorem tf_String_coder {w0 : Nat} (hw0 : w0 < nLit) : Ev E M_String_coder [.ref (XB + w0)] (WX X S) 0 0 (KI X 0 S) := by
  refine Ev.of pn_String rfl (leK rfl) ?_
  show Go E M_String_coder 0 0 0 [(0, .ref (XB + w0))] [] (WX X S) 0 0 (KI X 0 S)
  refine g_compact (pc := 0) (dK D_String_coder 0 rfl) qf_cs ?_
  refine vg_if_eq (a := 1) (pc := 3) (t := 13) (dK D_String_coder 1 rfl) rfl (inRk rfl) (fun hc => absurd hc (by decide)) (fun _ => ?_)
  refine g_aloadn (pc := 6) (i0 := 0) (j := 0) (dK D_String_coder 2 rfl) rfl rfl ?_
  refine g_strC (pc := 7) (dK D_String_coder 3 rfl) qf_co hw0 ?_
  refine g_goto (pc := 10) (tgt := 14) (dK D_String_coder 4 rfl) rfl ?_
  exact g_ireturn (pc := 14) (x := 0) (dK D_String_coder 6 rfl) rfl rfl (leK rfl) (leK rfl) (fun _ => rfl) ⟨rfl, inR0, rfl⟩
theorem tf_String_isLatin1 {w0 : Nat} (hw0 : w0 < nLit) : Ev E M_String_isLatin1 [.ref (XB + w0)] (WX X S) 0 0 (KB X true S) := by
  refine Ev.of pn_String rfl (leK rfl) ?_
  show Go E M_String_isLatin1 0 0 0 [(0, .ref (XB + w0))] [] (WX X S) 0 0 (KB X true S)
  refine g_compact (pc := 0) (dK D_String_isLatin1 0 rfl) qf_cs ?_
  refine vg_if_eq (a := 1) (pc := 3) (t := 17) (dK D_String_isLatin1 1 rfl) rfl (inRk rfl) (fun hc => absurd hc (by decide)) (fun _ => ?_)
  refine g_aloadn (pc := 6) (i0 := 0) (j := 0) (dK D_String_isLatin1 2 rfl) rfl rfl ?_
  refine g_strC (pc := 7) (dK D_String_isLatin1 3 rfl) qf_co hw0 ?_
  refine vg_if_ne (a := 0) (pc := 10) (t := 17) (dK D_String_isLatin1 4 rfl) rfl (inRk rfl) (fun hc => absurd rfl hc) (fun _ => ?_)
  refine vg_iconst (pc := 13) (dK D_String_isLatin1 5 rfl) ?_
  refine g_goto (pc := 14) (tgt := 18) (dK D_String_isLatin1 6 rfl) rfl ?_
  exact vg_iretB (pc := 18) (b := true) (dK D_String_isLatin1 8 rfl) rfl (leK rfl) (leK rfl) (fun _ => rfl) ⟨rfl, rfl⟩
theorem tf_String_length {w0 : Nat} (hw0 : w0 < nLit) {q : Int} (h : fn_String_length w0 S = some q) : Ev E M_String_length [.ref (XB + w0)] (WX X S) 0 0 (KI X q S) := by
  refine Ev.of pn_String rfl (leK rfl) ?_
  show Go E M_String_length 0 0 0 [(0, .ref (XB + w0))] [] (WX X S) 0 0 (KI X q S)
  obtain rfl := Option.some.inj h
  refine g_aloadn (pc := 0) (i0 := 0) (j := 0) (dK D_String_length 0 rfl) rfl rfl ?_
  refine g_strV (pc := 1) (dK D_String_length 1 rfl) qf_va hw0 ?_
  refine g_litlen (pc := 4) (v := Int32.ofInt (lenW w0)) (dK D_String_length 2 rfl) hw0 (Int32.ofInt_eq_ofNat).symm ?_
  refine g_aloadn (pc := 5) (i0 := 0) (j := 0) (dK D_String_length 3 rfl) rfl rfl ?_
  refine vg_cVS (pc := 6) (As := []) (rest := [V (lenW w0)]) (mc' := 0) (ms' := 0) (dK D_String_length 4 rfl) K_String_335 (fitK rfl) hw0 rfl (leK rfl) (leK rfl) (leK rfl) (tf_String_coder hw0) (kcI (fun _ => ?_))
  refine vg_ishr (pc := 9) (dK D_String_length 5 rfl) ?_
  rw [lenW_sh w0 hw0]
  exact vg_iretI (pc := 10) (r := lenW w0) (dK D_String_length 6 rfl) rfl (leK rfl) (leK rfl) (fun _ => rfl) ⟨rfl, lenW_in hw0, rfl⟩
theorem tf_Preconditions_checkIndex {a0 a1 : Int} (h0 : inR a0) (h1 : inR a1) (hi : 0 ≤ a0 ∧ a0 < a1) {v : Value} (hv : (lg_sl [V a0, V a1, v]).length ≤ 3) : Ev E M_Preconditions_checkIndex [V a0, V a1, v] (WX X S) 0 0 (KI X a0 S) := by
  refine Ev.of pn_Preconditions rfl hv ?_
  show Go E M_Preconditions_checkIndex 0 0 0 [(0, V a0), (1, V a1), (2, v)] [] (WX X S) 0 0 (KI X a0 S)
  refine g_iloadn (pc := 0) (i0 := 0) (j := 0) (dK D_Preconditions_checkIndex 0 rfl) rfl rfl ?_
  refine vg_if_lt (pc := 1) (t := 9) (dK D_Preconditions_checkIndex 1 rfl) rfl h0 (fun hc => absurd hc (by omega)) (fun _ => ?_)
  refine g_iloadn (pc := 4) (i0 := 0) (j := 0) (dK D_Preconditions_checkIndex 2 rfl) rfl rfl ?_
  refine g_iloadn (pc := 5) (i0 := 1) (j := 1) (dK D_Preconditions_checkIndex 3 rfl) rfl rfl ?_
  refine vg_icmp_lt (pc := 6) (t := 16) (dK D_Preconditions_checkIndex 4 rfl) rfl h0 h1 (fun _ => ?_) (fun hc => absurd hi.2 hc)
  refine g_iloadn (pc := 16) (i0 := 0) (j := 0) (dK D_Preconditions_checkIndex 10 rfl) rfl rfl ?_
  exact vg_iretI (pc := 17) (r := a0) (dK D_Preconditions_checkIndex 11 rfl) rfl (leK rfl) (leK rfl) (fun _ => rfl) ⟨rfl, h0, rfl⟩
theorem tf_String_checkIndex {a0 a1 : Int} (h0 : inR a0) (h1 : inR a1) (hi : 0 ≤ a0 ∧ a0 < a1) : Ev E M_String_checkIndex [V a0, V a1] (WX X S) 0 0 (KU X S) := by
  refine Ev.of pn_String rfl (leK rfl) ?_
  show Go E M_String_checkIndex 0 0 0 [(0, V a0), (1, V a1)] [] (WX X S) 0 0 (KU X S)
  refine g_iloadn (pc := 0) (i0 := 0) (j := 0) (dK D_String_checkIndex 0 rfl) rfl rfl ?_
  refine g_iloadn (pc := 1) (i0 := 1) (j := 1) (dK D_String_checkIndex 1 rfl) rfl rfl ?_
  refine g_getsQ (pc := 2) (dK D_String_checkIndex 2 rfl) qf_sf (fun v hv => ?_)
  refine vg_cS (pc := 5) (As := [V a0, V a1, v]) (rest := []) (mc' := 0) (ms' := 0) (dK D_String_checkIndex 3 rfl) K_String_1059 (fitK rfl) rfl (leK rfl) (leK rfl) (leK rfl) (tf_Preconditions_checkIndex h0 h1 hi (by rcases hv with rfl | ⟨t, rfl⟩ <;> exact leK rfl)) (kcI (fun _ => ?_))
  refine g_pop (pc := 8) (dK D_String_checkIndex 4 rfl) rfl ?_
  exact g_return (pc := 9) (dK D_String_checkIndex 5 rfl) rfl (leK rfl) (leK rfl) (fun _ => rfl) ⟨rfl, rfl⟩
theorem tf_StringLatin1_charAt {w0 : Nat} (hw0 : w0 < nLit) {a1 : Int} (h1 : inR a1) (hi : 0 ≤ a1 ∧ a1 < lenW w0) : Ev E M_StringLatin1_charAt [.ref (XB + 100 + w0), V a1] (WX X S) 0 0 (KI X (chW w0 a1.toNat) S) := by
  refine Ev.of pn_StringLatin1 rfl (leK rfl) ?_
  show Go E M_StringLatin1_charAt 0 0 0 [(0, .ref (XB + 100 + w0)), (1, V a1)] [] (WX X S) 0 0 (KI X (chW w0 a1.toNat) S)
  have hlt : a1.toNat < lenS.getD w0 0 := by have := hi.2; unfold lenW at this; omega
  have e1 := I_toInt h1
  refine g_iloadn (pc := 0) (i0 := 1) (j := 1) (dK D_StringLatin1_charAt 0 rfl) rfl rfl ?_
  refine g_aloadn (pc := 1) (i0 := 0) (j := 0) (dK D_StringLatin1_charAt 1 rfl) rfl rfl ?_
  refine g_litlen (pc := 2) (v := Int32.ofInt (lenW w0)) (dK D_StringLatin1_charAt 2 rfl) hw0 (Int32.ofInt_eq_ofNat).symm ?_
  refine vg_cS (pc := 3) (As := [V a1, V (lenW w0)]) (rest := []) (mc' := 0) (ms' := 0) (dK D_StringLatin1_charAt 3 rfl) K_StringLatin1_9 (fitK rfl) rfl (leK rfl) (leK rfl) (leK rfl) (tf_String_checkIndex h1 (lenW_in hw0) hi) (kcU ?_)
  refine g_aloadn (pc := 6) (i0 := 0) (j := 0) (dK D_StringLatin1_charAt 4 rfl) rfl rfl ?_
  refine g_iloadn (pc := 7) (i0 := 1) (j := 1) (dK D_StringLatin1_charAt 5 rfl) rfl rfl ?_
  refine g_litld (pc := 8) (dK D_StringLatin1_charAt 6 rfl) hw0 (by rw [e1]; exact hi.1) (by rw [e1]; exact hlt) ?_
  rw [e1]
  refine vg_sipush (pc := 9) (dK D_StringLatin1_charAt 7 rfl) rfl ?_
  refine g_iand (pc := 12) (dK D_StringLatin1_charAt 8 rfl) ?_
  refine g_i2c (pc := 13) (dK D_StringLatin1_charAt 9 rfl) (chW_at w0 hw0 _ hlt) ?_
  exact g_ireturn (pc := 14) (dK D_StringLatin1_charAt 10 rfl) rfl (chW_nar w0 hw0 _ hlt) (leK rfl) (leK rfl) (fun _ => rfl) ⟨congrArg (fun z => Sum.inl (some z)) (Vt _).symm, toInt_in _, rfl⟩
theorem tf_String_charAt {w0 : Nat} (hw0 : w0 < nLit) {a1 : Int} (h1 : inR a1) {q : Int} (h : fn_String_charAt w0 a1 S = some q) : Ev E M_String_charAt [.ref (XB + w0), V a1] (WX X S) 0 0 (KI X q S) := by
  refine Ev.of pn_String rfl (leK rfl) ?_
  show Go E M_String_charAt 0 0 0 [(0, .ref (XB + w0)), (1, V a1)] [] (WX X S) 0 0 (KI X q S)
  unfold fn_String_charAt at h
  refine gdE h (fun hi h => ?_)
  obtain rfl := Option.some.inj h
  refine g_aloadn (pc := 0) (i0 := 0) (j := 0) (dK D_String_charAt 0 rfl) rfl rfl ?_
  refine vg_cVS (pc := 1) (As := []) (rest := []) (mc' := 0) (ms' := 0) (dK D_String_charAt 1 rfl) K_String_492 (fitK rfl) hw0 rfl (leK rfl) (leK rfl) (leK rfl) (tf_String_isLatin1 hw0) (kcB ?_)
  refine vg_ifB_eq (pc := 4) (b := true) (t := 16) (dK D_String_charAt 2 rfl) rfl (fun _ => ?_) (fun hc => absurd rfl hc)
  refine g_aloadn (pc := 7) (i0 := 0) (j := 0) (dK D_String_charAt 3 rfl) rfl rfl ?_
  refine g_strV (pc := 8) (dK D_String_charAt 4 rfl) qf_va hw0 ?_
  refine g_iloadn (pc := 11) (i0 := 1) (j := 1) (dK D_String_charAt 5 rfl) rfl rfl ?_
  refine vg_cS (pc := 12) (As := [.ref (XB + 100 + w0), V a1]) (rest := []) (mc' := 0) (ms' := 0) (dK D_String_charAt 6 rfl) K_String_495 (fitK rfl) rfl (leK rfl) (leK rfl) (leK rfl) (tf_StringLatin1_charAt hw0 h1 hi) (kcI (fun hin => ?_))
  exact g_ireturn (pc := 15) (dK D_String_charAt 7 rfl) rfl (by
    have hlt : a1.toNat < lenS.getD w0 0 := by have := hi.2; unfold lenW at this; omega
    have e := chW_nar w0 hw0 _ hlt
    rw [← Vt] at e
    exact e) (leK rfl) (leK rfl) (fun _ => rfl) ⟨rfl, hin, rfl⟩
end VTexts
