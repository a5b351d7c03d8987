/-! MOVING WORLDS: comparing references, the JDK's statics, constants, rows copied -/
section XJdk
variable {sc : SC} {Y : MI} {mc ms pc k n i : Nat} {ls : List (Nat × Value)} {st : List Value} {ww : List PC} {K : Option Value → List PC → Prop}
theorem x_acmp_eq {a b : Nat} {off : Int} {tgt : Nat} (hp : Ap ww a b) (hd : decode (mBy Y) pc = .ok (.if_acmp .eq off, 3)) (ht : (pc : Int) + off = (tgt : Int)) (h1 : a = b → GX sc Y mc ms tgt ls st ww k n K) (h2 : a ≠ b → GX sc Y mc ms (pc + 3) ls st ww k n K) : GX sc Y mc ms pc ls (.ref b :: .ref a :: st) ww k n K := by
  intro E hE p e R s m args below meth c H locs lh F hR hS hl hw hsl hst
  have he := gA_eq (E := E) hp F hR
  exact lv_acmp_eq F.1.1 F.1.2.1 (rx := some (gA E a)) (ry := some (gA E b)) hd ht (fun q => h1 (he.mp (Option.some.inj q)) E hE p e R s m args below meth c H locs lh F hR hS hl hw hsl (sc_t (sc_t hst))) (fun q => h2 (fun z => q (by rw [z])) E hE p e R s m args below meth c H locs lh F hR hS hl hw hsl (sc_t (sc_t hst)))
theorem x_acmp_ne {a b : Nat} {off : Int} {tgt : Nat} (hp : Ap ww a b) (hd : decode (mBy Y) pc = .ok (.if_acmp .ne off, 3)) (ht : (pc : Int) + off = (tgt : Int)) (h1 : a ≠ b → GX sc Y mc ms tgt ls st ww k n K) (h2 : a = b → GX sc Y mc ms (pc + 3) ls st ww k n K) : GX sc Y mc ms pc ls (.ref b :: .ref a :: st) ww k n K := by
  intro E hE p e R s m args below meth c H locs lh F hR hS hl hw hsl hst
  have he := gA_eq (E := E) hp F hR
  exact lv_acmp_ne F.1.1 F.1.2.1 (rx := some (gA E a)) (ry := some (gA E b)) hd ht (fun q => h1 (fun z => q (by rw [z])) E hE p e R s m args below meth c H locs lh F hR hS hl hw hsl (sc_t (sc_t hst))) (fun q => h2 (he.mp (Option.some.inj q)) E hE p e R s m args below meth c H locs lh F hR hS hl hw hsl (sc_t (sc_t hst)))
/-- a static of the JDK's that holds a reference -/
theorem gV_J (E : EV) {j : Nat} (h : j < 700) : gV E (.ref (XB + 300 + j)) = .ref (eK E (100 + j)) := congrArg Value.ref (gA_J E h)
theorem sc_J {w : List PC} {j : Nat} : Sc w (.ref (XB + j)) := .inl (Nat.le_add_right _ _)
theorem sc_J3 {w : List PC} {j : Nat} : Sc w (.ref (XB + 300 + j)) := .inl (by omega)
theorem x_gs_empty (hd : decode (mBy Y) pc = .ok (.getstatic i, 3)) (hw0 : Cond.fieldLink (mNm Y).cls i "java/util/ArrayList" "DEFAULTCAPACITY_EMPTY_ELEMENTDATA" "[Ljava/lang/Object;" ∈ gtbl) (h : GX sc Y mc ms (pc + 3) ls (.ref (XB + 300 + 300) :: st) ww k n K) : GX sc Y mc ms pc ls st ww k n K := by
  intro E hE p e R s m args below meth c H locs lh F hR hS hl hw hsl hst
  have g := h E hE p e R s m args below meth c H locs lh F hR hS hl hw hsl (sc_c sc_J3 hst)
  rw [List.map_cons, gV_J E (by omega)] at g
  exact va_gets F.1.1 F.1.2.1 F.J.2.1.1 hS F.1.2.2.2.1 (F.1.2.2.2.2 _ hw0) (fun x hx => hx) hd g
theorem x_gs_ones (hd : decode (mBy Y) pc = .ok (.getstatic i, 3)) (hw0 : Cond.fieldLink (mNm Y).cls i "java/lang/Integer" "DigitOnes" "[B" ∈ gtbl) (h : GX sc Y mc ms (pc + 3) ls (.ref (XB + 300 + 301) :: st) ww k n K) : GX sc Y mc ms pc ls st ww k n K := by
  intro E hE p e R s m args below meth c H locs lh F hR hS hl hw hsl hst
  have g := h E hE p e R s m args below meth c H locs lh F hR hS hl hw hsl (sc_c sc_J3 hst)
  rw [List.map_cons, gV_J E (by omega)] at g
  exact va_gets F.1.1 F.1.2.1 F.J.2.2.1.1 hS F.1.2.2.2.1 (F.1.2.2.2.2 _ hw0) (fun x hx => hx) hd g
theorem x_gs_tens (hd : decode (mBy Y) pc = .ok (.getstatic i, 3)) (hw0 : Cond.fieldLink (mNm Y).cls i "java/lang/Integer" "DigitTens" "[B" ∈ gtbl) (h : GX sc Y mc ms (pc + 3) ls (.ref (XB + 300 + 302) :: st) ww k n K) : GX sc Y mc ms pc ls st ww k n K := by
  intro E hE p e R s m args below meth c H locs lh F hR hS hl hw hsl hst
  have g := h E hE p e R s m args below meth c H locs lh F hR hS hl hw hsl (sc_c sc_J3 hst)
  rw [List.map_cons, gV_J E (by omega)] at g
  exact va_gets F.1.1 F.1.2.1 F.J.2.2.2.1.1 hS F.1.2.2.2.1 (F.1.2.2.2.2 _ hw0) (fun x hx => hx) hd g
theorem x_gs_cache (hd : decode (mBy Y) pc = .ok (.getstatic i, 3)) (hw0 : Cond.fieldLink (mNm Y).cls i "java/lang/Integer$IntegerCache" "cache" "[Ljava/lang/Integer;" ∈ gtbl) (h : GX sc Y mc ms (pc + 3) ls (.ref (XB + 300 + 303) :: st) ww k n K) : GX sc Y mc ms pc ls st ww k n K := by
  intro E hE p e R s m args below meth c H locs lh F hR hS hl hw hsl hst
  have g := h E hE p e R s m args below meth c H locs lh F hR hS hl hw hsl (sc_c sc_J3 hst)
  rw [List.map_cons, gV_J E (by omega)] at g
  exact va_gets F.1.1 F.1.2.1 F.J.2.2.2.2.1.1 hS F.1.2.2.2.1 (F.1.2.2.2.2 _ hw0) (fun x hx => hx) hd g
theorem x_gs_high (hd : decode (mBy Y) pc = .ok (.getstatic i, 3)) (hw0 : Cond.fieldLink (mNm Y).cls i "java/lang/Integer$IntegerCache" "high" "I" ∈ gtbl) (h : GX sc Y mc ms (pc + 3) ls (.int 127 :: st) ww k n K) : GX sc Y mc ms pc ls st ww k n K := by
  intro E hE p e R s m args below meth c H locs lh F hR hS hl hw hsl hst
  exact va_gets F.1.1 F.1.2.1 F.J.2.2.2.2.2.1 hS F.1.2.2.2.1 (F.1.2.2.2.2 _ hw0) (fun x hx => hx) hd (h E hE p e R s m args below meth c H locs lh F hR hS hl hw hsl (sc_c trivial hst))
theorem x_gs_compact (hd : decode (mBy Y) pc = .ok (.getstatic i, 3)) (hw0 : Cond.fieldLink (mNm Y).cls i "java/lang/String" "COMPACT_STRINGS" "Z" ∈ gtbl) (h : GX sc Y mc ms (pc + 3) ls (.int 1 :: st) ww k n K) : GX sc Y mc ms pc ls st ww k n K := by
  intro E hE p e R s m args below meth c H locs lh F hR hS hl hw hsl hst
  exact va_gets F.1.1 F.1.2.1 F.2.2.2.2.2.2.2.2.1.2.2.1 hS F.1.2.2.2.1 (F.1.2.2.2.2 _ hw0) (fun x hx => hx) hd (h E hE p e R s m args below meth c H locs lh F hR hS hl hw hsl (sc_c trivial hst))
theorem x_gs_form (hd : decode (mBy Y) pc = .ok (.getstatic i, 3)) (hw0 : Cond.fieldLink (mNm Y).cls i "jdk/internal/util/Preconditions" "SIOOBE_FORMATTER" "Ljava/util/function/BiFunction;" ∈ gtbl) (h : ∀ v : Value, (v = .null ∨ ∃ t, v = .ref t) → GX sc Y mc ms (pc + 3) ls (v :: st) ww k n K) : GX sc Y mc ms pc ls st ww k n K := by
  intro E hE p e R s m args below meth c H locs lh F hR hS hl hw hsl hst
  rcases F.2.2.2.2.2.2.2.2.1.2.2.2 with hz | ⟨t, hz⟩
  · exact va_gets F.1.1 F.1.2.1 hz hS F.1.2.2.2.1 (F.1.2.2.2.2 _ hw0) (fun x hx => hx) hd (h .null (.inl rfl) E hE p e R s m args below meth c H locs lh F hR hS hl hw hsl (sc_c trivial hst))
  · have q := h (.ref (XB + 1000 + t)) (.inr ⟨_, rfl⟩) E hE p e R s m args below meth c H locs lh F hR hS hl hw hsl (sc_c (.inl (by omega)) hst)
    have e2 : gV E (.ref (XB + 1000 + t)) = .ref t := congrArg Value.ref (gA_o E t)
    rw [List.map_cons, e2] at q
    exact va_gets F.1.1 F.1.2.1 hz hS F.1.2.2.2.1 (F.1.2.2.2.2 _ hw0) (fun x hx => hx) hd q
/-! the rows that the JDK keeps -/
theorem x_boxld {x : Int32} (hd : decode (mBy Y) pc = .ok (.aaload, 1)) (h0 : 0 ≤ x.toInt) (h1 : x.toInt < 256) (h : GX sc Y mc ms (pc + 1) ls (.ref (XB + 300 + x.toInt.toNat) :: st) ww k n K) : GX sc Y mc ms pc ls (.int x :: .ref (XB + 300 + 303) :: st) ww k n K := by
  intro E hE p e R s m args below meth c H locs lh F hR hS hl hw hsl hst
  have g := h E hE p e R s m args below meth c H locs lh F hR hS hl hw hsl (sc_c sc_J3 (sc_t (sc_t hst)))
  rw [List.map_cons, gV_J E (by omega)] at g
  rw [List.map_cons, List.map_cons, gV_J E (by omega)]
  exact vb_tq F.1.1 F.1.2.1 F.J.2.2.2.2.1.2.1 hS (vp_in_iff.mpr ⟨h0, by omega⟩) rfl hd g
theorem x_boxv {j : Nat} (hd : decode (mBy Y) pc = .ok (.getfield i, 3)) (hw0 : Cond.fieldLink (mNm Y).cls i "java/lang/Integer" "value" "I" ∈ gtbl) (hj : j < 256) (h : GX sc Y mc ms (pc + 3) ls (.int (vb_c j) :: st) ww k n K) : GX sc Y mc ms pc ls (.ref (XB + 300 + j) :: st) ww k n K := by
  intro E hE p e R s m args below meth c H locs lh F hR hS hl hw hsl hst
  rw [List.map_cons, gV_J E (by omega)]
  exact va_getX (i := j) (v := fun k => .int (vb_c k)) F.1.1 F.1.2.1 F.J.2.2.2.2.1.2.2.2 hj hS F.1.2.2.2.1 (F.1.2.2.2.2 _ hw0) (fun x hx => hx) hd (h E hE p e R s m args below meth c H locs lh F hR hS hl hw hsl (sc_c trivial (sc_t hst)))
theorem x_onesld {x : Int32} (hd : decode (mBy Y) pc = .ok (.baload, 1)) (h0 : 0 ≤ x.toInt) (h1 : x.toInt < 100) (h : GX sc Y mc ms (pc + 1) ls (.int (Int32.ofNat (48 + x.toInt.toNat % 10)) :: st) ww k n K) : GX sc Y mc ms pc ls (.int x :: .ref (XB + 300 + 301) :: st) ww k n K := by
  intro E hE p e R s m args below meth c H locs lh F hR hS hl hw hsl hst
  rw [List.map_cons, List.map_cons, gV_J E (by omega)]
  exact va_tb F.1.1 F.1.2.1 F.J.2.2.1.2 hS (vp_in_iff.mpr ⟨h0, by omega⟩) rfl hd (h E hE p e R s m args below meth c H locs lh F hR hS hl hw hsl (sc_c trivial (sc_t (sc_t hst))))
theorem x_tensld {x : Int32} (hd : decode (mBy Y) pc = .ok (.baload, 1)) (h0 : 0 ≤ x.toInt) (h1 : x.toInt < 100) (h : GX sc Y mc ms (pc + 1) ls (.int (Int32.ofNat (48 + x.toInt.toNat / 10)) :: st) ww k n K) : GX sc Y mc ms pc ls (.int x :: .ref (XB + 300 + 302) :: st) ww k n K := by
  intro E hE p e R s m args below meth c H locs lh F hR hS hl hw hsl hst
  rw [List.map_cons, List.map_cons, gV_J E (by omega)]
  exact va_tb F.1.1 F.1.2.1 F.J.2.2.2.1.2 hS (vp_in_iff.mpr ⟨h0, by omega⟩) rfl hd (h E hE p e R s m args below meth c H locs lh F hR hS hl hw hsl (sc_c trivial (sc_t (sc_t hst))))
/-! text constants -/
theorem gV_K (E : EV) {j : Nat} (h : j < nLit) : gV E (.ref (XB + j)) = .ref (eK E j) := congrArg Value.ref (gA_K E h)
theorem gV_V (E : EV) {j : Nat} (h : j < nLit) : gV E (.ref (XB + 100 + j)) = .ref (eV E j) := congrArg Value.ref (gA_V E h)
theorem x_ldcS {own text : String} {j : Nat} (ho : (mNm Y).cls = own) (hd : decode (mBy Y) pc = .ok (.ldc i, 2)) (hm : (own, i, text, j) ∈ litT) (h : GX sc Y mc ms (pc + 2) ls (.ref (XB + j) :: st) ww k n K) : GX sc Y mc ms pc ls st ww k n K := by
  intro E hE p e R s m args below meth c H locs lh F hR hS hl hw hsl hst
  have q := h E hE p e R s m args below meth c H locs lh F hR hS hl hw hsl (sc_c sc_J hst)
  rw [List.map_cons, gV_K E (litLt _ hm)] at q
  subst ho
  exact va_ldcS F.1.1 F.1.2.1 F.1.2.2.2.1 (F.2.2.2.2.2.2.2.2.1.2.1 _ hm) hd q
theorem x_ldcSw {own text : String} {j : Nat} (ho : (mNm Y).cls = own) (hd : decode (mBy Y) pc = .ok (.ldc_w i, 3)) (hm : (own, i, text, j) ∈ litT) (h : GX sc Y mc ms (pc + 3) ls (.ref (XB + j) :: st) ww k n K) : GX sc Y mc ms pc ls st ww k n K := by
  intro E hE p e R s m args below meth c H locs lh F hR hS hl hw hsl hst
  have q := h E hE p e R s m args below meth c H locs lh F hR hS hl hw hsl (sc_c sc_J hst)
  rw [List.map_cons, gV_K E (litLt _ hm)] at q
  subst ho
  have h1 := F.2.2.2.2.2.2.2.2.1.2.1 _ hm
  intro T hT X
  obtain ⟨t, a1, b1⟩ := q T hT X
  exact ⟨t, X.ldcStringW F.1.1 F.1.2.2.2.1 (text := text) (a := eK E j) h1.1 h1.2 (g := F0 m pc lh (st.map (gV E))) rfl (by rw [F.1.2.1]; exact hd) t a1, b1⟩
theorem x_strV {j : Nat} (hd : decode (mBy Y) pc = .ok (.getfield i, 3)) (hw0 : Cond.fieldLink (mNm Y).cls i "java/lang/String" "value" "[B" ∈ gtbl) (hj : j < nLit) (h : GX sc Y mc ms (pc + 3) ls (.ref (XB + 100 + j) :: st) ww k n K) : GX sc Y mc ms pc ls (.ref (XB + j) :: st) ww k n K := by
  intro E hE p e R s m args below meth c H locs lh F hR hS hl hw hsl hst
  have q := h E hE p e R s m args below meth c H locs lh F hR hS hl hw hsl (sc_c (.inl (by omega)) (sc_t hst))
  rw [List.map_cons, gV_V E hj] at q
  rw [List.map_cons, gV_K E hj]
  exact vk_getf F.1.1 F.1.2.1 (F.2.2.2.2.2.2.2.2.1.1.1 j hj).2.2.1 hS F.1.2.2.2.1 (F.1.2.2.2.2 _ hw0) (fun x hx => hx) hd q
theorem x_strC {j : Nat} (hd : decode (mBy Y) pc = .ok (.getfield i, 3)) (hw0 : Cond.fieldLink (mNm Y).cls i "java/lang/String" "coder" "B" ∈ gtbl) (hj : j < nLit) (h : GX sc Y mc ms (pc + 3) ls (.int 0 :: st) ww k n K) : GX sc Y mc ms pc ls (.ref (XB + j) :: st) ww k n K := by
  intro E hE p e R s m args below meth c H locs lh F hR hS hl hw hsl hst
  rw [List.map_cons, gV_K E hj]
  exact vk_getf F.1.1 F.1.2.1 (F.2.2.2.2.2.2.2.2.1.1.1 j hj).2.1 hS F.1.2.2.2.1 (F.1.2.2.2.2 _ hw0) (fun x hx => hx) hd (h E hE p e R s m args below meth c H locs lh F hR hS hl hw hsl (sc_c trivial (sc_t hst)))
theorem x_litlen {j : Nat} {v : Int32} (hd : decode (mBy Y) pc = .ok (.arraylength, 1)) (hj : j < nLit) (hv : Int32.ofNat (lenS.getD j 0) = v) (h : GX sc Y mc ms (pc + 1) ls (.int v :: st) ww k n K) : GX sc Y mc ms pc ls (.ref (XB + 100 + j) :: st) ww k n K := by
  intro E hE p e R s m args below meth c H locs lh F hR hS hl hw hsl hst
  rw [List.map_cons, gV_V E hj]
  exact va_tlen F.1.1 F.1.2.1 (F.2.2.2.2.2.2.2.2.1.1.1 j hj).2.2.2 hS hv hd (h E hE p e R s m args below meth c H locs lh F hR hS hl hw hsl (sc_c trivial (sc_t hst)))
theorem x_litld {j : Nat} {x : Int32} (hd : decode (mBy Y) pc = .ok (.baload, 1)) (hj : j < nLit) (h0 : 0 ≤ x.toInt) (h1 : x.toInt.toNat < lenS.getD j 0) (h : GX sc Y mc ms (pc + 1) ls (.int ((bytS.getD j []).getD x.toInt.toNat 0) :: st) ww k n K) : GX sc Y mc ms pc ls (.int x :: .ref (XB + 100 + j) :: st) ww k n K := by
  intro E hE p e R s m args below meth c H locs lh F hR hS hl hw hsl hst
  rw [List.map_cons, List.map_cons, gV_V E hj]
  exact va_tb F.1.1 F.1.2.1 (F.2.2.2.2.2.2.2.2.1.1.1 j hj).2.2.2 hS (vp_in_iff.mpr ⟨h0, by omega⟩) rfl hd (h E hE p e R s m args below meth c H locs lh F hR hS hl hw hsl (sc_c trivial (sc_t (sc_t hst))))
/-! the script -/
theorem gV_scr (E : EV) : gV E (.ref (XB + 200)) = .ref (eSb E) := congrArg Value.ref (gA_scr E)
end XJdk
