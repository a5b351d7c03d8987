
/-! CONSTRUCTORS -/
def wdC (N : Nat) (C : Nat → PC) : List PC := (List.range N).map C
def updC (C : Nat → PC) (a : Nat) (v : PC) : Nat → PC := fun x => if x = a then v else C x
theorem wdc_len {N : Nat} {C : Nat → PC} : (wdC N C).length = N := by unfold wdC; rw [List.length_map, List.length_range]
theorem wdc_at {N x : Nat} {C : Nat → PC} (h : x < N) : (wdC N C)[x]? = some (C x) := by unfold wdC; rw [List.getElem?_map, List.getElem?_range h]; rfl
theorem updC_eq {C : Nat → PC} {a : Nat} {v : PC} : updC C a v a = v := if_pos rfl
theorem updC_ne {C : Nat → PC} {a x : Nat} {v : PC} (h : x ≠ a) : updC C a v x = C x := if_neg h
theorem wdc_congr {N : Nat} {C C' : Nat → PC} (h : ∀ x, x < N → C x = C' x) : wdC N C = wdC N C' := List.map_congr_left (fun x hx => h x (List.mem_range.mp hx))
theorem wdc_push {N : Nat} {C : Nat → PC} {v : PC} : wdC N C ++ [v] = wdC (N + 1) (updC C N v) := by
  unfold wdC
  rw [List.range_succ, List.map_append, List.map_cons, List.map_nil, updC_eq]
  congr 1
  exact List.map_congr_left (fun x hx => (updC_ne (Nat.ne_of_lt (List.mem_range.mp hx))).symm)
theorem wdc_set {N a : Nat} {C : Nat → PC} {v : PC} : (wdC N C).set a v = wdC N (updC C a v) := by
  apply List.ext_getElem?
  intro j
  rw [List.getElem?_set]
  by_cases hl : j < N
  · rw [wdc_at hl, wdc_at hl, wdc_len]
    by_cases hj : a = j
    · subst hj; rw [if_pos rfl, if_pos hl, updC_eq]
    · rw [if_neg hj, updC_ne (fun e => hj e.symm)]
  · rw [List.getElem?_eq_none (by rw [wdc_len]; omega), List.getElem?_eq_none (by rw [wdc_len]; omega), wdc_len]
    split
    · rw [if_neg (by omega)]
    · rfl
def Blk (C : Nat → PC) : Nat → List PC → Prop
  | _, [] => True
  | a, v :: l => C a = v ∧ Blk C (a + 1) l
theorem Blk.app {C : Nat → PC} : ∀ {l l' : List PC} {a : Nat}, Blk C a l → Blk C (a + l.length) l' → Blk C a (l ++ l')
  | [], _, _, _, h => h
  | v :: l, l', a, h, h' => ⟨h.1, Blk.app h.2 (by rw [show a + 1 + l.length = a + (v :: l).length by rw [List.length_cons]; omega]; exact h')⟩
theorem Blk.app' {C : Nat → PC} {l l' : List PC} {a n : Nat} (hn : l.length = n) (h : Blk C a l) (h' : Blk C (a + n) l') : Blk C a (l ++ l') := Blk.app h (by rw [hn]; exact h')
theorem Blk.pres {C C' : Nat → PC} : ∀ {l : List PC} {a : Nat}, (∀ x, a ≤ x → x < a + l.length → C' x = C x) → Blk C a l → Blk C' a l
  | [], _, _, _ => trivial
  | v :: l, a, hp, h => ⟨(hp a (Nat.le_refl _) (by rw [List.length_cons]; omega)).trans h.1, Blk.pres (fun x h1 h2 => hp x (by omega) (by rw [List.length_cons]; omega)) h.2⟩
theorem Blk.at {C : Nat → PC} : ∀ {l : List PC} {a j : Nat} {v : PC}, Blk C a l → l[j]? = some v → C (a + j) = v
  | [], _, _, _, _, h => by cases h
  | w :: l, a, 0, v, h, hv => by rw [← Option.some.inj hv]; exact h.1
  | w :: l, a, j + 1, v, h, hv => by rw [show a + (j + 1) = a + 1 + j by omega]; exact Blk.at h.2 hv
/-- what a constructor of the cell a leaves: a block of cells -/
def Post (a : Nat) (C : Nat → PC) (l : List PC) : RK → PS → Prop := fun rk w => rk = .inl none ∧ ∃ C' : Nat → PC, w = (wdC (a + l.length) C', true) ∧ (∀ x, x < a → C' x = C x) ∧ Blk C' a l
def arI (n : Nat) : PC := (100, List.replicate n (.int 0))
section CRules
variable {E : EV} {Y Y' : MI} {mc ms mc' ms' pc k n i nA N N1 : Nat} {ls : List (Nat × Value)} {st As rest : List Value} {C C1 : Nat → PC} {K K' : RK → PS → Prop}
theorem c_newarr_int {M : Nat} (hm : eM E = false) (hd : decode (mBy Y) pc = .ok (.newarray .int, 2)) (hM : Nat.ble M 16384 = true) (hk : k + 1 ≤ mc) (hn : n + M ≤ ms) (hx : N < XB) (hN1 : N + 1 = N1) (e : C1 = updC C N (100, List.replicate M (.int 0)))
    (h : Go E Y mc ms (pc + 2) ls (.ref N :: st) (wdC N1 C1, true) (k + 1) (n + M) K) : Go E Y mc ms pc ls (V (M : Int) :: st) (wdC N C, true) k n K := by
  subst e hN1
  have hM' := Nat.le_of_ble_eq_true hM
  have e1 : (Int32.ofInt (M : Int)).toInt = (M : Int) := I_toInt (by unfold inR; omega)
  refine g_newarr_int hm hd q_57 (by rw [e1]; omega) (by rw [e1]; omega) hM' hk hn (by rw [wdc_len]; exact hx) ?_
  rw [wdc_len, wdc_push]
  exact h
theorem c_newarr_byte {M : Nat} (hm : eM E = false) (hd : decode (mBy Y) pc = .ok (.newarray .byte, 2)) (hM : Nat.ble M 16384 = true) (hk : k + 1 ≤ mc) (hn : n + M ≤ ms) (hx : N < XB) (hN1 : N + 1 = N1) (e : C1 = updC C N (101, List.replicate M (.int 0)))
    (h : Go E Y mc ms (pc + 2) ls (.ref N :: st) (wdC N1 C1, true) (k + 1) (n + M) K) : Go E Y mc ms pc ls (V (M : Int) :: st) (wdC N C, true) k n K := by
  subst e hN1
  have hM' := Nat.le_of_ble_eq_true hM
  have e1 : (Int32.ofInt (M : Int)).toInt = (M : Int) := I_toInt (by unfold inR; omega)
  refine g_newarr_byte hm hd q_680 (by rw [e1]; omega) (by rw [e1]; omega) hM' hk hn (by rw [wdc_len]; exact hx) ?_
  rw [wdc_len, wdc_push]
  exact h
theorem c_newarr_bool {M : Nat} (hm : eM E = false) (hd : decode (mBy Y) pc = .ok (.newarray .boolean, 2)) (hM : Nat.ble M 16384 = true) (hk : k + 1 ≤ mc) (hn : n + M ≤ ms) (hx : N < XB) (hN1 : N + 1 = N1) (e : C1 = updC C N (102, List.replicate M (.int 0)))
    (h : Go E Y mc ms (pc + 2) ls (.ref N :: st) (wdC N1 C1, true) (k + 1) (n + M) K) : Go E Y mc ms pc ls (V (M : Int) :: st) (wdC N C, true) k n K := by
  subst e hN1
  have hM' := Nat.le_of_ble_eq_true hM
  have e1 : (Int32.ofInt (M : Int)).toInt = (M : Int) := I_toInt (by unfold inR; omega)
  refine g_newarr_bool hm hd q_1509 (by rw [e1]; omega) (by rw [e1]; omega) hM' hk hn (by rw [wdc_len]; exact hx) ?_
  rw [wdc_len, wdc_push]
  exact h
theorem c_newarr_long {M : Nat} (hm : eM E = false) (hd : decode (mBy Y) pc = .ok (.newarray .long, 2)) (hM : Nat.ble M 16384 = true) (hk : k + 1 ≤ mc) (hn : n + M ≤ ms) (hx : N < XB) (hN1 : N + 1 = N1) (e : C1 = updC C N (103, List.replicate M (.long 0)))
    (h : Go E Y mc ms (pc + 2) ls (.ref N :: st) (wdC N1 C1, true) (k + 1) (n + M) K) : Go E Y mc ms pc ls (V (M : Int) :: st) (wdC N C, true) k n K := by
  subst e hN1
  have hM' := Nat.le_of_ble_eq_true hM
  have e1 : (Int32.ofInt (M : Int)).toInt = (M : Int) := I_toInt (by unfold inR; omega)
  refine g_newarr_long hm hd q_2127 (by rw [e1]; omega) (by rw [e1]; omega) hM' hk hn (by rw [wdc_len]; exact hx) ?_
  rw [wdc_len, wdc_push]
  exact h
theorem c_newarr_dbl {M : Nat} (hm : eM E = false) (hd : decode (mBy Y) pc = .ok (.newarray .double, 2)) (hM : Nat.ble M 16384 = true) (hk : k + 1 ≤ mc) (hn : n + M ≤ ms) (hx : N < XB) (hN1 : N + 1 = N1) (e : C1 = updC C N (104, List.replicate M (.double 0)))
    (h : Go E Y mc ms (pc + 2) ls (.ref N :: st) (wdC N1 C1, true) (k + 1) (n + M) K) : Go E Y mc ms pc ls (V (M : Int) :: st) (wdC N C, true) k n K := by
  subst e hN1
  have hM' := Nat.le_of_ble_eq_true hM
  have e1 : (Int32.ofInt (M : Int)).toInt = (M : Int) := I_toInt (by unfold inR; omega)
  refine g_newarr_dbl hm hd q_2128 (by rw [e1]; omega) (by rw [e1]; omega) hM' hk hn (by rw [wdc_len]; exact hx) ?_
  rw [wdc_len, wdc_push]
  exact h
theorem c_new {ci : Nat} (hm : eM E = false) (hd : decode (mBy Y) pc = .ok (.new i, 3)) (hci : ci < 12) (h1 : Cond.classLink (mNm Y).cls i (RC ci) ∈ gtbl) (h2 : Cond.instantiable (RC ci) (NC ci) ∈ gtbl) (h3 : Cond.initialized (RC ci) ∈ gtbl) (hk : k + 1 ≤ mc) (hn : n + NC ci ≤ ms) (hx : N < XB) (hN1 : N + 1 = N1) (e : C1 = updC C N (ci, dfl ci))
    (h : Go E Y mc ms (pc + 3) ls (.ref N :: st) (wdC N1 C1, true) (k + 1) (n + NC ci) K) : Go E Y mc ms pc ls st (wdC N C, true) k n K := by
  subst e hN1
  refine g_new hm hd hci h1 h2 h3 hk hn (by rw [wdc_len]; exact hx) ?_
  rw [wdc_len, wdc_push]
  exact h
theorem c_anew {M : Nat} (hm : eM E = false) (hd : decode (mBy Y) pc = .ok (.anewarray i, 3)) (h1 : Cond.classLink (mNm Y).cls i "FlatPlan$State" ∈ gtbl) (hM : Nat.ble M 16384 = true) (hk : k + 1 ≤ mc) (hn : n + M ≤ ms) (hx : N < XB) (hN1 : N + 1 = N1) (e : C1 = updC C N (105, List.replicate M .null))
    (h : Go E Y mc ms (pc + 3) ls (.ref N :: st) (wdC N1 C1, true) (k + 1) (n + M) K) : Go E Y mc ms pc ls (V (M : Int) :: st) (wdC N C, true) k n K := by
  subst e hN1
  have hM' := Nat.le_of_ble_eq_true hM
  have e1 : (Int32.ofInt (M : Int)).toInt = (M : Int) := I_toInt (by unfold inR; omega)
  refine g_anewarr hm hd h1 (by rw [e1]; omega) (by rw [e1]; omega) hM' hk hn (by rw [wdc_len]; exact hx) ?_
  rw [wdc_len, wdc_push]
  exact h
theorem c_putF {a ci f : Nat} {vs vs1 : List Value} {v : Value} (hd : decode (mBy Y) pc = .ok (.putfield i, 3)) (hw : Cond.fieldLink (mNm Y).cls i (TC ci f).1 (TC ci f).2.1 (TC ci f).2.2.1 ∈ gtbl) (hci : ci < 12) (hf : f < NC ci) (hfin : (TC ci f).2.2.2 = true) (hin : (mNm Y).name = "<init>") (hdc : (TC ci f).1 = (mNm Y).cls) (hty : okV (TYC ci f) v) (ha : a < N) (hN : N ≤ XB) (hc : C a = (ci, vs)) (hl0 : f < vs.length) (hv : vs.set f v = vs1) (e : C1 = updC C a (ci, vs1))
    (h : Go E Y mc ms (pc + 3) ls st (wdC N C1, true) k n K) : Go E Y mc ms pc ls (v :: .ref a :: st) (wdC N C, true) k n K := by
  subst e hv
  refine g_putfinal hd hw hci hf hfin hin hdc hty (Nat.lt_of_lt_of_le ha hN) (by rw [← hc]; exact wdc_at ha) hl0 ?_
  show Go E Y mc ms (pc + 3) ls st ((wdC N C).set a _, true) k n K
  rw [wdc_set]
  exact h
theorem c_put {a ci f : Nat} {vs vs1 : List Value} {v : Value} (hd : decode (mBy Y) pc = .ok (.putfield i, 3)) (hw : Cond.fieldLink (mNm Y).cls i (TC ci f).1 (TC ci f).2.1 (TC ci f).2.2.1 ∈ gtbl) (hci : ci < 12) (hf : f < NC ci) (hfin : (TC ci f).2.2.2 = false) (hty : okV (TYC ci f) v) (ha : a < N) (hN : N ≤ XB) (hc : C a = (ci, vs)) (hl0 : f < vs.length) (hv : vs.set f v = vs1) (e : C1 = updC C a (ci, vs1))
    (h : Go E Y mc ms (pc + 3) ls st (wdC N C1, true) k n K) : Go E Y mc ms pc ls (v :: .ref a :: st) (wdC N C, true) k n K := by
  subst e hv
  refine g_putfield hd hw hci hf hfin hty (Nat.lt_of_lt_of_le ha hN) (by rw [← hc]; exact wdc_at ha) hl0 ?_
  show Go E Y mc ms (pc + 3) ls st ((wdC N C).set a _, true) k n K
  rw [wdc_set]
  exact h
theorem c_get {a ci f : Nat} {vs : List Value} {v : Value} (hd : decode (mBy Y) pc = .ok (.getfield i, 3)) (hw : Cond.fieldLink (mNm Y).cls i (TC ci f).1 (TC ci f).2.1 (TC ci f).2.2.1 ∈ gtbl) (hci : ci < 12) (hf : f < NC ci) (ha : a < N) (hN : N ≤ XB) (hc : C a = (ci, vs)) (hv : vs[f]? = some v)
    (h : Go E Y mc ms (pc + 3) ls (v :: st) (wdC N C, true) k n K) : Go E Y mc ms pc ls (.ref a :: st) (wdC N C, true) k n K :=
  g_getfield hd hw hci hf (Nat.lt_of_lt_of_le ha hN) (by rw [← hc]; exact wdc_at ha) hv h
theorem Blk.flat {f : Nat → List PC} (hf : ∀ j, (f j).length = 22) : ∀ {n b : Nat}, (∀ j, j < n → Blk C (b + 22 * j) (f j)) → Blk C b ((List.range n).flatMap f) ∧ ((List.range n).flatMap f).length = 22 * n
  | 0, _, _ => ⟨trivial, rfl⟩
  | n + 1, b, h => by
    have q := Blk.flat hf (n := n) (b := b) (fun j hj => h j (by omega))
    rw [List.range_succ, List.flatMap_append, List.flatMap_cons, List.flatMap_nil, List.append_nil]
    refine ⟨Blk.app q.1 (by rw [q.2]; exact h n (by omega)), ?_⟩
    rw [List.length_append, q.2, hf]; omega
theorem postI {l : List PC} {a : Nat} (h : ∀ C' : Nat → PC, (∀ x, x < a → C' x = C x) → Blk C' a l → Go E Y mc ms pc ls rest (wdC (a + l.length) C', true) k n K) : ∀ rk w, Post a C l rk w → KN E Y mc ms pc ls rest true k n K rk w := by
  rintro _ _ ⟨rfl, C', rfl, h1, h2⟩
  exact h C' h1 h2
theorem c_callI {b : Nat} {w : PS} (hd : decode (mBy Y) pc = .ok (.invokespecial i, 3)) (hw : LI (mNm Y).cls i Y' nA) (hf : Fits Y Y') (hA : As.length = nA) (hr8 : (rest.map fun v => v.category).sum ≤ 8) (hk : k + mc' ≤ mc) (hn : n + ms' ≤ ms)
    (hE : Ev E Y' (.ref b :: As) w mc' ms' K') (hK : ∀ rk w', K' rk w' → KN E Y mc ms (pc + 3) ls rest w.2 (k + mc') (n + ms') K rk w') : Go E Y mc ms pc ls (As.reverse ++ .ref b :: rest) w k n K := g_callI hd hw hf hA hr8 hk hn (hE.mono hK)
theorem c_callIN {b : Nat} {w : PS} (hd : decode (mBy Y) pc = .ok (.invokespecial i, 3)) (hw : LIN (mNm Y).cls i Y' nA) (hf : Fits Y Y') (hA : As.length = nA) (hr8 : (rest.map fun v => v.category).sum ≤ 8) (hk : k + mc' ≤ mc) (hn : n + ms' ≤ ms)
    (hE : Ev E Y' (.ref b :: As) w mc' ms' K') (hK : ∀ rk w', K' rk w' → KN E Y mc ms (pc + 3) ls rest w.2 (k + mc') (n + ms') K rk w') : Go E Y mc ms pc ls (As.reverse ++ .ref b :: rest) w k n K := g_callIN hd hw hf hA hr8 hk hn (hE.mono hK)
end CRules

/-! THE TWO NUMBERINGS: cells as they were made (mode false), cells as the walk numbers them (mode true) -/
def mE (E : EV) : EV := (E.1, E.2.1, E.2.2.1, E.2.2.2.1, E.2.2.2.2.1, E.2.2.2.2.2.1, E.2.2.2.2.2.2.1, E.2.2.2.2.2.2.2.1, E.2.2.2.2.2.2.2.2.1, true)
def tV (f : Nat → Nat) : Value → Value
  | .ref a => .ref (f a)
  | v => v
def tC (f : Nat → Nat) (c : PC) : PC := (c.1, c.2.map (tV f))
theorem eP_1 {E : EV} {a : Nat} : eP (mE E) a = eB E + PM a := by unfold eP; exact if_pos rfl
theorem gA_L {E : EV} (hm : eM E = false) (a : Nat) : gA (mE E) (LM a) = gA E a := by
  by_cases h : a < XB
  · have h1 := LM_XB.mpr h
    rw [gA_in h, gA_in h1, eP_1, PM_LM, eP_0 hm]
  · rw [LM_hi (by unfold XB at h; omega)]
    unfold gA
    rw [if_neg h, if_neg h]; rfl
theorem gA_P {E : EV} (hm : eM E = false) (a : Nat) : gA E (PM a) = gA (mE E) a := by
  rw [← gA_L hm (PM a), LM_PM]
theorem gV_L {E : EV} (hm : eM E = false) (v : Value) : gV (mE E) (tV LM v) = gV E v := by
  cases v with
  | ref a => exact congrArg Value.ref (gA_L hm a)
  | _ => rfl
theorem tV_LP (v : Value) : tV LM (tV PM v) = v := by
  cases v with
  | ref a => exact congrArg Value.ref (LM_PM a)
  | _ => rfl
theorem tC_LP (c : PC) : tC LM (tC PM c) = c := by
  unfold tC
  show (c.1, (c.2.map (tV PM)).map (tV LM)) = c
  have e : (c.2.map (tV PM)).map (tV LM) = c.2 := by
    rw [List.map_map]
    exact (List.map_congr_left (fun v _ => tV_LP v)).trans (List.map_id' c.2)
  exact Prod.ext rfl e
theorem gd_L {vs : List Value} {j : Nat} : (vs.map (tV LM)).getD j .null = tV LM (vs.getD j .null) := by
  rw [List.getD_eq_getElem?_getD, List.getD_eq_getElem?_getD, List.getElem?_map]
  cases vs[j]? <;> rfl
theorem vI_L (v : Value) : vInt (tV LM v) = vInt v := by cases v <;> rfl
theorem vL_L (v : Value) : vLong (tV LM v) = vLong v := by cases v <;> rfl
theorem vD_L (v : Value) : vDbl (tV LM v) = vDbl v := by cases v <;> rfl
theorem vR_L {E : EV} (hm : eM E = false) (v : Value) : vRef (mE E) (tV LM v) = vRef E v := by
  cases v with
  | ref a => exact congrArg some (gA_L hm a)
  | _ => rfl
theorem arrE_L {E : EV} (hm : eM E = false) (t : Nat) (vs : List Value) : arrE (mE E) t (vs.map (tV LM)) = arrE E t vs := by
  have e1 : (fun j => vInt ((vs.map (tV LM)).getD j .null)) = fun j => vInt (vs.getD j .null) := funext (fun j => by rw [gd_L, vI_L])
  have e2 : (fun j => vLong ((vs.map (tV LM)).getD j .null)) = fun j => vLong (vs.getD j .null) := funext (fun j => by rw [gd_L, vL_L])
  have e3 : (fun j => vDbl ((vs.map (tV LM)).getD j .null)) = fun j => vDbl (vs.getD j .null) := funext (fun j => by rw [gd_L, vD_L])
  have e4 : (fun j => vRef (mE E) ((vs.map (tV LM)).getD j .null)) = fun j => vRef E (vs.getD j .null) := funext (fun j => by rw [gd_L, vR_L hm])
  unfold arrE
  split
  · rw [e1]
  · rw [e1]
  · rw [e1]
  · rw [e2]
  · rw [e3]
  · rw [e4]
theorem cE_L {E : EV} (hm : eM E = false) (c : PC) : cE (mE E) (tC LM c) = cE E c := by
  unfold cE tC
  show (if c.1 < 100 then _ else _) = (if c.1 < 100 then _ else _)
  by_cases h : c.1 < 100
  · rw [if_pos h, if_pos h]
    show Sum.inr (c.1, (c.2.map (tV LM)).map (gV (mE E))) = _
    have e : (c.2.map (tV LM)).map (gV (mE E)) = c.2.map (gV E) := by
      rw [List.map_map]
      exact List.map_congr_left (fun v _ => gV_L hm v)
    rw [e]
  · rw [if_neg h, if_neg h]
    show Sum.inl (eC E (c.1 - 100), (c.2.map (tV LM)).length, arrE (mE E) (c.1 - 100) (c.2.map (tV LM))) = _
    rw [List.length_map, arrE_L hm]
/-- the walk's list of the first n cells: what isn't made yet is no cell -/
def swD (n : Nat) (C : Nat → PC) (x : Nat) : PC := if PM x < n then tC LM (C (PM x)) else (999, [])
def pmN (n : Nat) : Prop := (((List.range 526).filter (fun x => decide (PM x < n))).map PM).Perm (List.range n)
theorem pm_32 : pmN 32 := List.isPerm_iff.mp (by decide +kernel)
theorem pm_62 : pmN 62 := List.isPerm_iff.mp (by decide +kernel)
theorem pm_526 : pmN 526 := List.isPerm_iff.mp (by decide +kernel)
theorem zi_map {D : Nat → PC} {n : Nat} : ((List.range n).map D).zipIdx = (List.range n).map (fun x => (D x, x)) := by
  apply List.ext_getElem?
  intro j
  rw [List.getElem?_zipIdx, List.getElem?_map, List.getElem?_map]
  by_cases h : j < n
  · rw [List.getElem?_range h]; simp
  · rw [List.getElem?_eq_none (by rw [List.length_range]; omega)]; rfl
theorem cW_rg0 {E : EV} (hm : eM E = false) {C : Nat → PC} {n : Nat} : cW E ((List.range n).map C) = (List.range n).map (fun p => (eB E + p, cE E (C p))) := by
  rw [cW_0 hm, zi_map, List.map_map]
  exact List.map_congr_left (fun x _ => by show (eP E x, cE E (C x)) = _; rw [eP_0 hm])
theorem fl_map {α β : Type} {f : α → β} {p : β → Bool} : ∀ {l : List α}, (l.map f).filter p = (l.filter (fun x => p (f x))).map f
  | [] => rfl
  | x :: l => by
    rw [List.map_cons]
    by_cases c : p (f x) = true
    · rw [List.filter_cons_of_pos c, List.filter_cons_of_pos (p := fun x => p (f x)) c, List.map_cons, fl_map]
    · rw [List.filter_cons_of_neg c, List.filter_cons_of_neg (p := fun x => p (f x)) c, fl_map]
theorem cW_rg1 {E : EV} (hm : eM E = false) {C : Nat → PC} {n : Nat} (hC : ∀ p, p < n → (C p).1 < 900) : cW (mE E) ((List.range 526).map (swD n C)) = (((List.range 526).filter (fun x => decide (PM x < n))).map PM).map (fun p => (eB E + p, cE E (C p))) := by
  unfold cW
  rw [zi_map, fl_map, List.map_map, List.map_map]
  have e : (List.range 526).filter (fun x => kp (mE E) (swD n C x, x)) = (List.range 526).filter (fun x => decide (PM x < n)) := by
    refine List.filter_congr (fun x _ => ?_)
    show (!true || decide ((swD n C x).1 < 900)) = _
    unfold swD
    by_cases h : PM x < n
    · rw [if_pos h, decide_eq_true h, Bool.not_true, Bool.false_or]
      exact decide_eq_true (hC _ h)
    · rw [if_neg h, decide_eq_false h]; rfl
  rw [e]
  refine List.map_congr_left (fun x hx => ?_)
  have h : PM x < n := of_decide_eq_true (List.mem_filter.mp hx).2
  show (eP (mE E) x, cE (mE E) (swD n C x)) = (eB E + PM x, cE E (C (PM x)))
  rw [eP_1]
  unfold swD
  rw [if_pos h, cE_L hm]
theorem cW_pm {E : EV} (hm : eM E = false) {C : Nat → PC} {n : Nat} (hn : pmN n) (hC : ∀ p, p < n → (C p).1 < 900) : (cW (mE E) ((List.range 526).map (swD n C))).Perm (cW E ((List.range n).map C)) := by
  rw [cW_rg0 hm, cW_rg1 hm hC]
  exact hn.map _
theorem va_P.pm {D : va_G} {cl : List vw_C} {w w' : va_W} {H : Heap} (h : va_P D cl w H) (hp : w'.Perm w) : va_P D cl w' H := fun k q hk => by
  obtain ⟨j, hj⟩ := List.getElem?_of_mem (hp.mem_iff.mp (List.mem_of_getElem? hk))
  exact h j q hj
theorem Rep.pm1 {E : EV} {w w' : List PC} {z : Nat} {b : Bool} {H : Heap} (q : (cW (mE E) w).Perm (cW E w')) (h : Rep E (w', b) z H) : Rep (mE E) (w, b) z H := by
  have hl := q.length_eq
  refine ⟨va_P.pm h.1 q, fun hb => ?_, ?_⟩
  · have h2 := h.2.1 hb
    show z = eB E + (cW (mE E) w).length
    rw [hl]; exact h2
  · show eB E + (cW (mE E) w).length ≤ H.size
    rw [hl]; exact h.2.2
theorem Rep.pm0 {E : EV} {w w' : List PC} {z : Nat} {b : Bool} {H : Heap} (q : (cW (mE E) w).Perm (cW E w')) (h : Rep (mE E) (w, b) z H) : Rep E (w', b) z H := by
  have hl := q.length_eq
  refine ⟨va_P.pm h.1 q.symm, fun hb => ?_, ?_⟩
  · have h2 := h.2.1 hb
    show z = eB E + (cW E w').length
    rw [← hl]; exact h2
  · show eB E + (cW E w').length ≤ H.size
    rw [← hl]; exact h.2.2
theorem Rep.sw1 {E : EV} (hm : eM E = false) {C : Nat → PC} {n z : Nat} {b : Bool} {H : Heap} (hn : pmN n) (hC : ∀ p, p < n → (C p).1 < 900) (h : Rep E (wdC n C, b) z H) : Rep (mE E) ((List.range 526).map (swD n C), b) z H := Rep.pm1 (cW_pm hm hn hC) h
theorem Rep.sw0 {E : EV} (hm : eM E = false) {C : Nat → PC} {n z : Nat} {b : Bool} {H : Heap} (hn : pmN n) (hC : ∀ p, p < n → (C p).1 < 900) (h : Rep (mE E) ((List.range 526).map (swD n C), b) z H) : Rep E (wdC n C, b) z H := Rep.pm0 (cW_pm hm hn hC) h
/-- a way on in the walk's numbering is one in the other -/
theorem Go.sw {E : EV} {Y : MI} {mc ms pc k n : Nat} {ls ls' : List (Nat × Value)} {st st' : List Value} {S S' : PS} {K K' : RK → PS → Prop} (hl : gL (mE E) ls' = gL E ls) (hst : st'.map (gV (mE E)) = st.map (gV E))
    (hR : ∀ z H, Rep E S z H → Rep (mE E) S' z H) (hK : ∀ rk w, K' rk w → (∀ v, rk = .inl v → v.map (gV (mE E)) = v.map (gV E)) ∧ ∃ w2, K rk w2 ∧ ∀ z H, Rep (mE E) w z H → Rep E w2 z H)
    (h : Go (mE E) Y mc ms pc ls' st' S' k n K') : Go E Y mc ms pc ls st S k n K := by
  intro p e R s m args below meth c H locs lh F hR0 hS hlv T hT X
  rw [← hl] at hlv
  have F' : Fr (mE E) Y mc ms p R s m args meth c := F
  obtain ⟨t, a1, o, b1, b2, b3⟩ := h p e R s m args below meth c H locs lh F' (hR _ _ hR0) hS hlv T hT X
  rw [hst] at a1
  refine ⟨t, a1, o, b1, b2, ?_⟩
  rcases b3 with ⟨⟨⟨v, S', q1, q2, q3⟩, q4⟩, q5⟩ | ⟨q, q1, E1, ce, L, ⟨⟨S', q2, q3⟩, q4⟩, q5⟩
  · obtain ⟨k1, w2, k2, k3⟩ := hK _ _ q2
    exact Or.inl ⟨⟨⟨v, w2, q1.trans (congrArg Outcome.returned (k1 v rfl)), k2, k3 _ _ q3⟩, q4⟩, q5⟩
  · obtain ⟨k1, w2, k2, k3⟩ := hK _ _ q2
    exact Or.inr ⟨q, q1, E1, ce, L, ⟨⟨w2, k2, k3 _ _ q3⟩, q4⟩, q5⟩
/-! kinds of what is made -/
theorem kl_upd {C C1 : Nat → PC} {a N : Nat} {v : PC} (h : ∀ x, x < N → (C x).1 < 900) (e : C1 = updC C a v) (hv : v.1 < 900) : ∀ x, x < N → (C1 x).1 < 900 := fun x hx => by
  rw [e]
  by_cases c : x = a
  · rw [c, updC_eq]; exact hv
  · rw [updC_ne c]; exact h x hx
theorem kl_push {C C1 : Nat → PC} {N N1 : Nat} {v : PC} (h : ∀ x, x < N → (C x).1 < 900) (e : C1 = updC C N v) (hN : N1 = N + 1) (hv : v.1 < 900) : ∀ x, x < N1 → (C1 x).1 < 900 := fun x hx => by
  rw [e]
  by_cases c : x = N
  · rw [c, updC_eq]; exact hv
  · rw [updC_ne c]; exact h x (by omega)
theorem kl_blk {C : Nat → PC} : ∀ {l : List PC} {a : Nat}, Blk C a l → (∀ c ∈ l, c.1 < 900) → ∀ x, a ≤ x → x < a + l.length → (C x).1 < 900
  | [], a, _, _, x, h1, h2 => by have : x < a + 0 := h2; omega
  | v :: l, a, hb, hl, x, h1, h2 => by
    by_cases c : x = a
    · rw [c, hb.1]; exact hl v List.mem_cons_self
    · exact kl_blk hb.2 (fun c hc => hl c (List.mem_cons_of_mem _ hc)) x (by omega) (by rw [List.length_cons] at h2; omega)
theorem kl_step {C C1 : Nat → PC} {N b n N1 : Nat} {l : List PC} (h : ∀ x, x < N → (C x).1 < 900) (hp : ∀ x, x < b → C1 x = C x) (hb : Blk C1 b l) (hN : N = b + 1) (hl : ∀ c ∈ l, c.1 < 900) (hn : l.length = n) (h1 : N1 = b + n) : ∀ x, x < N1 → (C1 x).1 < 900 := fun x hx => by
  by_cases c : x < b
  · rw [hp x c]; exact h x (by omega)
  · exact kl_blk hb hl x (by omega) (by omega)

theorem vg_bipush' {E : EV} {Y : MI} {mc ms pc k n : Nat} {ls : List (Nat × Value)} {st : List Value} {w : PS} {K : RK → PS → Prop} {z : Int} (hd : decode (mBy Y) pc = .ok (.bipush z, 2)) (hz : (Int8.ofInt z).toInt32 = Int32.ofInt z) (h : Go E Y mc ms (pc + 2) ls (V z :: st) w k n K) : Go E Y mc ms pc ls st w k n K := g_bipush hd hz h
theorem vg_sipush' {E : EV} {Y : MI} {mc ms pc k n : Nat} {ls : List (Nat × Value)} {st : List Value} {w : PS} {K : RK → PS → Prop} {z : Int} (hd : decode (mBy Y) pc = .ok (.sipush z, 3)) (hz : (Int16.ofInt z).toInt32 = Int32.ofInt z) (h : Go E Y mc ms (pc + 3) ls (V z :: st) w k n K) : Go E Y mc ms pc ls st w k n K := g_sipush hd hz h
theorem vg_iconst' {E : EV} {Y : MI} {mc ms pc k n : Nat} {ls : List (Nat × Value)} {st : List Value} {w : PS} {K : RK → PS → Prop} {z : Int} (hd : decode (mBy Y) pc = .ok (.iconst z, 1)) (h : Go E Y mc ms (pc + 1) ls (V z :: st) w k n K) : Go E Y mc ms pc ls st w k n K := g_iconst hd rfl h
def Ads_l (a : Nat) : List PC := (0, [.ref (a + 1), .ref (a + 2), .ref (a + 3), .ref (a + 4), .ref (a + 5), .ref (a + 6), .ref (a + 7), .int 0]) :: ((100, List.replicate 40 (.int 0)) :: ((100, List.replicate 40 (.int 0)) :: ((100, List.replicate 40 (.int 0)) :: ((100, List.replicate 40 (.int 0)) :: ((100, List.replicate 40 (.int 0)) :: ((100, List.replicate 40 (.int 0)) :: ((100, List.replicate 40 (.int 0)) :: ([]))))))))
theorem ct_Ads {E : EV} {C : Nat → PC} {a : Nat} (hm : eM E = false) (hx : a + 8 < 2000) (h0 : C a = (0, dfl 0)) : Ev E M_Ads_init [.ref a] (wdC (a + 1) C, true) 7 280 (Post a C (Ads_l a)) := by
  refine Ev.of pn_Ads rfl (leK rfl) ?_
  show Go E M_Ads_init 7 280 0 [(0, .ref a)] [] (wdC (a + 1) C, true) 0 0 (Post a C (Ads_l a))
  have h0 : C a = (0, [.null, .null, .null, .null, .null, .null, .null, .int 0]) := h0
  refine g_aloadn (pc := 0) (i0 := 0) (j := 0) (dK D_Ads_init 0 rfl) rfl rfl ?_
  refine g_objinit (pc := 1) (dK D_Ads_init 1 rfl) q_75 (leK rfl) (leK rfl) (leK rfl) ?_
  refine g_aloadn (pc := 4) (i0 := 0) (j := 0) (dK D_Ads_init 2 rfl) rfl rfl ?_
  refine vg_bipush' (pc := 5) (dK D_Ads_init 3 rfl) rfl ?_
  obtain ⟨C1, e1⟩ : ∃ D : Nat → PC, D = updC C (a + 1) (100, List.replicate 40 (.int 0)) := ⟨_, rfl⟩
  refine c_newarr_int hm (pc := 7) (M := 40) (N1 := (a + 2)) (dK D_Ads_init 4 rfl) rfl (leK rfl) (leK rfl) (by unfold XB; omega) rfl e1 ?_
  have f1 : C1 a = (0, [.null, .null, .null, .null, .null, .null, .null, .int 0]) := by rw [e1, updC_ne (by omega)]; exact h0
  obtain ⟨C2, e2⟩ : ∃ D : Nat → PC, D = updC C1 a (0, [.ref (a + 1), .null, .null, .null, .null, .null, .null, .int 0]) := ⟨_, rfl⟩
  refine c_putF (pc := 9) (ci := 0) (f := 0) (dK D_Ads_init 5 rfl) q_76 (ltK rfl) (ltK rfl) rfl rfl rfl (okV_arr _ _) (by omega) (by unfold XB; omega) f1 (ltK rfl) rfl e2 ?_
  have f2 : C2 a = (0, [.ref (a + 1), .null, .null, .null, .null, .null, .null, .int 0]) := by rw [e2]; exact updC_eq
  refine g_aloadn (pc := 12) (i0 := 0) (j := 0) (dK D_Ads_init 6 rfl) rfl rfl ?_
  refine vg_bipush' (pc := 13) (dK D_Ads_init 7 rfl) rfl ?_
  obtain ⟨C3, e3⟩ : ∃ D : Nat → PC, D = updC C2 (a + 2) (100, List.replicate 40 (.int 0)) := ⟨_, rfl⟩
  refine c_newarr_int hm (pc := 15) (M := 40) (N1 := (a + 3)) (dK D_Ads_init 8 rfl) rfl (leK rfl) (leK rfl) (by unfold XB; omega) rfl e3 ?_
  have f3 : C3 a = (0, [.ref (a + 1), .null, .null, .null, .null, .null, .null, .int 0]) := by rw [e3, updC_ne (by omega)]; exact f2
  obtain ⟨C4, e4⟩ : ∃ D : Nat → PC, D = updC C3 a (0, [.ref (a + 1), .ref (a + 2), .null, .null, .null, .null, .null, .int 0]) := ⟨_, rfl⟩
  refine c_putF (pc := 17) (ci := 0) (f := 1) (dK D_Ads_init 9 rfl) q_80 (ltK rfl) (ltK rfl) rfl rfl rfl (okV_arr _ _) (by omega) (by unfold XB; omega) f3 (ltK rfl) rfl e4 ?_
  have f4 : C4 a = (0, [.ref (a + 1), .ref (a + 2), .null, .null, .null, .null, .null, .int 0]) := by rw [e4]; exact updC_eq
  refine g_aloadn (pc := 20) (i0 := 0) (j := 0) (dK D_Ads_init 10 rfl) rfl rfl ?_
  refine vg_bipush' (pc := 21) (dK D_Ads_init 11 rfl) rfl ?_
  obtain ⟨C5, e5⟩ : ∃ D : Nat → PC, D = updC C4 (a + 3) (100, List.replicate 40 (.int 0)) := ⟨_, rfl⟩
  refine c_newarr_int hm (pc := 23) (M := 40) (N1 := (a + 4)) (dK D_Ads_init 12 rfl) rfl (leK rfl) (leK rfl) (by unfold XB; omega) rfl e5 ?_
  have f5 : C5 a = (0, [.ref (a + 1), .ref (a + 2), .null, .null, .null, .null, .null, .int 0]) := by rw [e5, updC_ne (by omega)]; exact f4
  obtain ⟨C6, e6⟩ : ∃ D : Nat → PC, D = updC C5 a (0, [.ref (a + 1), .ref (a + 2), .ref (a + 3), .null, .null, .null, .null, .int 0]) := ⟨_, rfl⟩
  refine c_putF (pc := 25) (ci := 0) (f := 2) (dK D_Ads_init 13 rfl) q_83 (ltK rfl) (ltK rfl) rfl rfl rfl (okV_arr _ _) (by omega) (by unfold XB; omega) f5 (ltK rfl) rfl e6 ?_
  have f6 : C6 a = (0, [.ref (a + 1), .ref (a + 2), .ref (a + 3), .null, .null, .null, .null, .int 0]) := by rw [e6]; exact updC_eq
  refine g_aloadn (pc := 28) (i0 := 0) (j := 0) (dK D_Ads_init 14 rfl) rfl rfl ?_
  refine vg_bipush' (pc := 29) (dK D_Ads_init 15 rfl) rfl ?_
  obtain ⟨C7, e7⟩ : ∃ D : Nat → PC, D = updC C6 (a + 4) (100, List.replicate 40 (.int 0)) := ⟨_, rfl⟩
  refine c_newarr_int hm (pc := 31) (M := 40) (N1 := (a + 5)) (dK D_Ads_init 16 rfl) rfl (leK rfl) (leK rfl) (by unfold XB; omega) rfl e7 ?_
  have f7 : C7 a = (0, [.ref (a + 1), .ref (a + 2), .ref (a + 3), .null, .null, .null, .null, .int 0]) := by rw [e7, updC_ne (by omega)]; exact f6
  obtain ⟨C8, e8⟩ : ∃ D : Nat → PC, D = updC C7 a (0, [.ref (a + 1), .ref (a + 2), .ref (a + 3), .ref (a + 4), .null, .null, .null, .int 0]) := ⟨_, rfl⟩
  refine c_putF (pc := 33) (ci := 0) (f := 3) (dK D_Ads_init 17 rfl) q_88 (ltK rfl) (ltK rfl) rfl rfl rfl (okV_arr _ _) (by omega) (by unfold XB; omega) f7 (ltK rfl) rfl e8 ?_
  have f8 : C8 a = (0, [.ref (a + 1), .ref (a + 2), .ref (a + 3), .ref (a + 4), .null, .null, .null, .int 0]) := by rw [e8]; exact updC_eq
  refine g_aloadn (pc := 36) (i0 := 0) (j := 0) (dK D_Ads_init 18 rfl) rfl rfl ?_
  refine vg_bipush' (pc := 37) (dK D_Ads_init 19 rfl) rfl ?_
  obtain ⟨C9, e9⟩ : ∃ D : Nat → PC, D = updC C8 (a + 5) (100, List.replicate 40 (.int 0)) := ⟨_, rfl⟩
  refine c_newarr_int hm (pc := 39) (M := 40) (N1 := (a + 6)) (dK D_Ads_init 20 rfl) rfl (leK rfl) (leK rfl) (by unfold XB; omega) rfl e9 ?_
  have f9 : C9 a = (0, [.ref (a + 1), .ref (a + 2), .ref (a + 3), .ref (a + 4), .null, .null, .null, .int 0]) := by rw [e9, updC_ne (by omega)]; exact f8
  obtain ⟨C10, e10⟩ : ∃ D : Nat → PC, D = updC C9 a (0, [.ref (a + 1), .ref (a + 2), .ref (a + 3), .ref (a + 4), .ref (a + 5), .null, .null, .int 0]) := ⟨_, rfl⟩
  refine c_putF (pc := 41) (ci := 0) (f := 4) (dK D_Ads_init 21 rfl) q_92 (ltK rfl) (ltK rfl) rfl rfl rfl (okV_arr _ _) (by omega) (by unfold XB; omega) f9 (ltK rfl) rfl e10 ?_
  have f10 : C10 a = (0, [.ref (a + 1), .ref (a + 2), .ref (a + 3), .ref (a + 4), .ref (a + 5), .null, .null, .int 0]) := by rw [e10]; exact updC_eq
  refine g_aloadn (pc := 44) (i0 := 0) (j := 0) (dK D_Ads_init 22 rfl) rfl rfl ?_
  refine vg_bipush' (pc := 45) (dK D_Ads_init 23 rfl) rfl ?_
  obtain ⟨C11, e11⟩ : ∃ D : Nat → PC, D = updC C10 (a + 6) (100, List.replicate 40 (.int 0)) := ⟨_, rfl⟩
  refine c_newarr_int hm (pc := 47) (M := 40) (N1 := (a + 7)) (dK D_Ads_init 24 rfl) rfl (leK rfl) (leK rfl) (by unfold XB; omega) rfl e11 ?_
  have f11 : C11 a = (0, [.ref (a + 1), .ref (a + 2), .ref (a + 3), .ref (a + 4), .ref (a + 5), .null, .null, .int 0]) := by rw [e11, updC_ne (by omega)]; exact f10
  obtain ⟨C12, e12⟩ : ∃ D : Nat → PC, D = updC C11 a (0, [.ref (a + 1), .ref (a + 2), .ref (a + 3), .ref (a + 4), .ref (a + 5), .ref (a + 6), .null, .int 0]) := ⟨_, rfl⟩
  refine c_putF (pc := 49) (ci := 0) (f := 5) (dK D_Ads_init 25 rfl) q_96 (ltK rfl) (ltK rfl) rfl rfl rfl (okV_arr _ _) (by omega) (by unfold XB; omega) f11 (ltK rfl) rfl e12 ?_
  have f12 : C12 a = (0, [.ref (a + 1), .ref (a + 2), .ref (a + 3), .ref (a + 4), .ref (a + 5), .ref (a + 6), .null, .int 0]) := by rw [e12]; exact updC_eq
  refine g_aloadn (pc := 52) (i0 := 0) (j := 0) (dK D_Ads_init 26 rfl) rfl rfl ?_
  refine vg_bipush' (pc := 53) (dK D_Ads_init 27 rfl) rfl ?_
  obtain ⟨C13, e13⟩ : ∃ D : Nat → PC, D = updC C12 (a + 7) (100, List.replicate 40 (.int 0)) := ⟨_, rfl⟩
  refine c_newarr_int hm (pc := 55) (M := 40) (N1 := (a + 8)) (dK D_Ads_init 28 rfl) rfl (leK rfl) (leK rfl) (by unfold XB; omega) rfl e13 ?_
  have f13 : C13 a = (0, [.ref (a + 1), .ref (a + 2), .ref (a + 3), .ref (a + 4), .ref (a + 5), .ref (a + 6), .null, .int 0]) := by rw [e13, updC_ne (by omega)]; exact f12
  obtain ⟨C14, e14⟩ : ∃ D : Nat → PC, D = updC C13 a (0, [.ref (a + 1), .ref (a + 2), .ref (a + 3), .ref (a + 4), .ref (a + 5), .ref (a + 6), .ref (a + 7), .int 0]) := ⟨_, rfl⟩
  refine c_putF (pc := 57) (ci := 0) (f := 6) (dK D_Ads_init 29 rfl) q_100 (ltK rfl) (ltK rfl) rfl rfl rfl (okV_arr _ _) (by omega) (by unfold XB; omega) f13 (ltK rfl) rfl e14 ?_
  have f14 : C14 a = (0, [.ref (a + 1), .ref (a + 2), .ref (a + 3), .ref (a + 4), .ref (a + 5), .ref (a + 6), .ref (a + 7), .int 0]) := by rw [e14]; exact updC_eq
  exact g_return (pc := 60) (dK D_Ads_init 30 rfl) rfl (leK rfl) (leK rfl) (fun _ => rfl) ⟨rfl, C14, rfl, fun x hx => ((congrFun e14 _).trans (updC_ne (by omega))).trans (((congrFun e13 _).trans (updC_ne (by omega))).trans (((congrFun e12 _).trans (updC_ne (by omega))).trans (((congrFun e11 _).trans (updC_ne (by omega))).trans (((congrFun e10 _).trans (updC_ne (by omega))).trans (((congrFun e9 _).trans (updC_ne (by omega))).trans (((congrFun e8 _).trans (updC_ne (by omega))).trans (((congrFun e7 _).trans (updC_ne (by omega))).trans (((congrFun e6 _).trans (updC_ne (by omega))).trans (((congrFun e5 _).trans (updC_ne (by omega))).trans (((congrFun e4 _).trans (updC_ne (by omega))).trans (((congrFun e3 _).trans (updC_ne (by omega))).trans (((congrFun e2 _).trans (updC_ne (by omega))).trans (((congrFun e1 _).trans (updC_ne (by omega))).trans (rfl)))))))))))))), ⟨f14, ⟨((congrFun e14 _).trans (updC_ne (by omega))).trans (((congrFun e13 _).trans (updC_ne (by omega))).trans (((congrFun e12 _).trans (updC_ne (by omega))).trans (((congrFun e11 _).trans (updC_ne (by omega))).trans (((congrFun e10 _).trans (updC_ne (by omega))).trans (((congrFun e9 _).trans (updC_ne (by omega))).trans (((congrFun e8 _).trans (updC_ne (by omega))).trans (((congrFun e7 _).trans (updC_ne (by omega))).trans (((congrFun e6 _).trans (updC_ne (by omega))).trans (((congrFun e5 _).trans (updC_ne (by omega))).trans (((congrFun e4 _).trans (updC_ne (by omega))).trans (((congrFun e3 _).trans (updC_ne (by omega))).trans (((congrFun e2 _).trans (updC_ne (by omega))).trans ((congrFun e1 _).trans updC_eq))))))))))))), ⟨((congrFun e14 _).trans (updC_ne (by omega))).trans (((congrFun e13 _).trans (updC_ne (by omega))).trans (((congrFun e12 _).trans (updC_ne (by omega))).trans (((congrFun e11 _).trans (updC_ne (by omega))).trans (((congrFun e10 _).trans (updC_ne (by omega))).trans (((congrFun e9 _).trans (updC_ne (by omega))).trans (((congrFun e8 _).trans (updC_ne (by omega))).trans (((congrFun e7 _).trans (updC_ne (by omega))).trans (((congrFun e6 _).trans (updC_ne (by omega))).trans (((congrFun e5 _).trans (updC_ne (by omega))).trans (((congrFun e4 _).trans (updC_ne (by omega))).trans ((congrFun e3 _).trans updC_eq))))))))))), ⟨((congrFun e14 _).trans (updC_ne (by omega))).trans (((congrFun e13 _).trans (updC_ne (by omega))).trans (((congrFun e12 _).trans (updC_ne (by omega))).trans (((congrFun e11 _).trans (updC_ne (by omega))).trans (((congrFun e10 _).trans (updC_ne (by omega))).trans (((congrFun e9 _).trans (updC_ne (by omega))).trans (((congrFun e8 _).trans (updC_ne (by omega))).trans (((congrFun e7 _).trans (updC_ne (by omega))).trans (((congrFun e6 _).trans (updC_ne (by omega))).trans ((congrFun e5 _).trans updC_eq))))))))), ⟨((congrFun e14 _).trans (updC_ne (by omega))).trans (((congrFun e13 _).trans (updC_ne (by omega))).trans (((congrFun e12 _).trans (updC_ne (by omega))).trans (((congrFun e11 _).trans (updC_ne (by omega))).trans (((congrFun e10 _).trans (updC_ne (by omega))).trans (((congrFun e9 _).trans (updC_ne (by omega))).trans (((congrFun e8 _).trans (updC_ne (by omega))).trans ((congrFun e7 _).trans updC_eq))))))), ⟨((congrFun e14 _).trans (updC_ne (by omega))).trans (((congrFun e13 _).trans (updC_ne (by omega))).trans (((congrFun e12 _).trans (updC_ne (by omega))).trans (((congrFun e11 _).trans (updC_ne (by omega))).trans (((congrFun e10 _).trans (updC_ne (by omega))).trans ((congrFun e9 _).trans updC_eq))))), ⟨((congrFun e14 _).trans (updC_ne (by omega))).trans (((congrFun e13 _).trans (updC_ne (by omega))).trans (((congrFun e12 _).trans (updC_ne (by omega))).trans ((congrFun e11 _).trans updC_eq))), ⟨((congrFun e14 _).trans (updC_ne (by omega))).trans ((congrFun e13 _).trans updC_eq), trivial⟩⟩⟩⟩⟩⟩⟩⟩⟩
def Stories_l (a : Nat) : List PC := (9, [.ref (a + 1), .ref (a + 2), .ref (a + 3), .ref (a + 4), .ref (a + 5), .int 0]) :: ((100, List.replicate 10 (.int 0)) :: ((100, List.replicate 10 (.int 0)) :: ((100, List.replicate 10 (.int 0)) :: ((100, List.replicate 10 (.int 0)) :: ((100, List.replicate 10 (.int 0)) :: ([]))))))
theorem ct_Stories {E : EV} {C : Nat → PC} {a : Nat} (hm : eM E = false) (hx : a + 6 < 2000) (h0 : C a = (9, dfl 9)) : Ev E M_Stories_init [.ref a] (wdC (a + 1) C, true) 5 50 (Post a C (Stories_l a)) := by
  refine Ev.of pn_Stories rfl (leK rfl) ?_
  show Go E M_Stories_init 5 50 0 [(0, .ref a)] [] (wdC (a + 1) C, true) 0 0 (Post a C (Stories_l a))
  have h0 : C a = (9, [.null, .null, .null, .null, .null, .int 0]) := h0
  refine g_aloadn (pc := 0) (i0 := 0) (j := 0) (dK D_Stories_init 0 rfl) rfl rfl ?_
  refine g_objinit (pc := 1) (dK D_Stories_init 1 rfl) q_132 (leK rfl) (leK rfl) (leK rfl) ?_
  refine g_aloadn (pc := 4) (i0 := 0) (j := 0) (dK D_Stories_init 2 rfl) rfl rfl ?_
  refine vg_bipush' (pc := 5) (dK D_Stories_init 3 rfl) rfl ?_
  obtain ⟨C1, e1⟩ : ∃ D : Nat → PC, D = updC C (a + 1) (100, List.replicate 10 (.int 0)) := ⟨_, rfl⟩
  refine c_newarr_int hm (pc := 7) (M := 10) (N1 := (a + 2)) (dK D_Stories_init 4 rfl) rfl (leK rfl) (leK rfl) (by unfold XB; omega) rfl e1 ?_
  have f1 : C1 a = (9, [.null, .null, .null, .null, .null, .int 0]) := by rw [e1, updC_ne (by omega)]; exact h0
  obtain ⟨C2, e2⟩ : ∃ D : Nat → PC, D = updC C1 a (9, [.ref (a + 1), .null, .null, .null, .null, .int 0]) := ⟨_, rfl⟩
  refine c_putF (pc := 9) (ci := 9) (f := 0) (dK D_Stories_init 5 rfl) q_133 (ltK rfl) (ltK rfl) rfl rfl rfl (okV_arr _ _) (by omega) (by unfold XB; omega) f1 (ltK rfl) rfl e2 ?_
  have f2 : C2 a = (9, [.ref (a + 1), .null, .null, .null, .null, .int 0]) := by rw [e2]; exact updC_eq
  refine g_aloadn (pc := 12) (i0 := 0) (j := 0) (dK D_Stories_init 6 rfl) rfl rfl ?_
  refine vg_bipush' (pc := 13) (dK D_Stories_init 7 rfl) rfl ?_
  obtain ⟨C3, e3⟩ : ∃ D : Nat → PC, D = updC C2 (a + 2) (100, List.replicate 10 (.int 0)) := ⟨_, rfl⟩
  refine c_newarr_int hm (pc := 15) (M := 10) (N1 := (a + 3)) (dK D_Stories_init 8 rfl) rfl (leK rfl) (leK rfl) (by unfold XB; omega) rfl e3 ?_
  have f3 : C3 a = (9, [.ref (a + 1), .null, .null, .null, .null, .int 0]) := by rw [e3, updC_ne (by omega)]; exact f2
  obtain ⟨C4, e4⟩ : ∃ D : Nat → PC, D = updC C3 a (9, [.ref (a + 1), .ref (a + 2), .null, .null, .null, .int 0]) := ⟨_, rfl⟩
  refine c_putF (pc := 17) (ci := 9) (f := 1) (dK D_Stories_init 9 rfl) q_137 (ltK rfl) (ltK rfl) rfl rfl rfl (okV_arr _ _) (by omega) (by unfold XB; omega) f3 (ltK rfl) rfl e4 ?_
  have f4 : C4 a = (9, [.ref (a + 1), .ref (a + 2), .null, .null, .null, .int 0]) := by rw [e4]; exact updC_eq
  refine g_aloadn (pc := 20) (i0 := 0) (j := 0) (dK D_Stories_init 10 rfl) rfl rfl ?_
  refine vg_bipush' (pc := 21) (dK D_Stories_init 11 rfl) rfl ?_
  obtain ⟨C5, e5⟩ : ∃ D : Nat → PC, D = updC C4 (a + 3) (100, List.replicate 10 (.int 0)) := ⟨_, rfl⟩
  refine c_newarr_int hm (pc := 23) (M := 10) (N1 := (a + 4)) (dK D_Stories_init 12 rfl) rfl (leK rfl) (leK rfl) (by unfold XB; omega) rfl e5 ?_
  have f5 : C5 a = (9, [.ref (a + 1), .ref (a + 2), .null, .null, .null, .int 0]) := by rw [e5, updC_ne (by omega)]; exact f4
  obtain ⟨C6, e6⟩ : ∃ D : Nat → PC, D = updC C5 a (9, [.ref (a + 1), .ref (a + 2), .ref (a + 3), .null, .null, .int 0]) := ⟨_, rfl⟩
  refine c_putF (pc := 25) (ci := 9) (f := 2) (dK D_Stories_init 13 rfl) q_141 (ltK rfl) (ltK rfl) rfl rfl rfl (okV_arr _ _) (by omega) (by unfold XB; omega) f5 (ltK rfl) rfl e6 ?_
  have f6 : C6 a = (9, [.ref (a + 1), .ref (a + 2), .ref (a + 3), .null, .null, .int 0]) := by rw [e6]; exact updC_eq
  refine g_aloadn (pc := 28) (i0 := 0) (j := 0) (dK D_Stories_init 14 rfl) rfl rfl ?_
  refine vg_bipush' (pc := 29) (dK D_Stories_init 15 rfl) rfl ?_
  obtain ⟨C7, e7⟩ : ∃ D : Nat → PC, D = updC C6 (a + 4) (100, List.replicate 10 (.int 0)) := ⟨_, rfl⟩
  refine c_newarr_int hm (pc := 31) (M := 10) (N1 := (a + 5)) (dK D_Stories_init 16 rfl) rfl (leK rfl) (leK rfl) (by unfold XB; omega) rfl e7 ?_
  have f7 : C7 a = (9, [.ref (a + 1), .ref (a + 2), .ref (a + 3), .null, .null, .int 0]) := by rw [e7, updC_ne (by omega)]; exact f6
  obtain ⟨C8, e8⟩ : ∃ D : Nat → PC, D = updC C7 a (9, [.ref (a + 1), .ref (a + 2), .ref (a + 3), .ref (a + 4), .null, .int 0]) := ⟨_, rfl⟩
  refine c_putF (pc := 33) (ci := 9) (f := 3) (dK D_Stories_init 17 rfl) q_144 (ltK rfl) (ltK rfl) rfl rfl rfl (okV_arr _ _) (by omega) (by unfold XB; omega) f7 (ltK rfl) rfl e8 ?_
  have f8 : C8 a = (9, [.ref (a + 1), .ref (a + 2), .ref (a + 3), .ref (a + 4), .null, .int 0]) := by rw [e8]; exact updC_eq
  refine g_aloadn (pc := 36) (i0 := 0) (j := 0) (dK D_Stories_init 18 rfl) rfl rfl ?_
  refine vg_bipush' (pc := 37) (dK D_Stories_init 19 rfl) rfl ?_
  obtain ⟨C9, e9⟩ : ∃ D : Nat → PC, D = updC C8 (a + 5) (100, List.replicate 10 (.int 0)) := ⟨_, rfl⟩
  refine c_newarr_int hm (pc := 39) (M := 10) (N1 := (a + 6)) (dK D_Stories_init 20 rfl) rfl (leK rfl) (leK rfl) (by unfold XB; omega) rfl e9 ?_
  have f9 : C9 a = (9, [.ref (a + 1), .ref (a + 2), .ref (a + 3), .ref (a + 4), .null, .int 0]) := by rw [e9, updC_ne (by omega)]; exact f8
  obtain ⟨C10, e10⟩ : ∃ D : Nat → PC, D = updC C9 a (9, [.ref (a + 1), .ref (a + 2), .ref (a + 3), .ref (a + 4), .ref (a + 5), .int 0]) := ⟨_, rfl⟩
  refine c_putF (pc := 41) (ci := 9) (f := 4) (dK D_Stories_init 21 rfl) q_148 (ltK rfl) (ltK rfl) rfl rfl rfl (okV_arr _ _) (by omega) (by unfold XB; omega) f9 (ltK rfl) rfl e10 ?_
  have f10 : C10 a = (9, [.ref (a + 1), .ref (a + 2), .ref (a + 3), .ref (a + 4), .ref (a + 5), .int 0]) := by rw [e10]; exact updC_eq
  exact g_return (pc := 44) (dK D_Stories_init 22 rfl) rfl (leK rfl) (leK rfl) (fun _ => rfl) ⟨rfl, C10, rfl, fun x hx => ((congrFun e10 _).trans (updC_ne (by omega))).trans (((congrFun e9 _).trans (updC_ne (by omega))).trans (((congrFun e8 _).trans (updC_ne (by omega))).trans (((congrFun e7 _).trans (updC_ne (by omega))).trans (((congrFun e6 _).trans (updC_ne (by omega))).trans (((congrFun e5 _).trans (updC_ne (by omega))).trans (((congrFun e4 _).trans (updC_ne (by omega))).trans (((congrFun e3 _).trans (updC_ne (by omega))).trans (((congrFun e2 _).trans (updC_ne (by omega))).trans (((congrFun e1 _).trans (updC_ne (by omega))).trans (rfl)))))))))), ⟨f10, ⟨((congrFun e10 _).trans (updC_ne (by omega))).trans (((congrFun e9 _).trans (updC_ne (by omega))).trans (((congrFun e8 _).trans (updC_ne (by omega))).trans (((congrFun e7 _).trans (updC_ne (by omega))).trans (((congrFun e6 _).trans (updC_ne (by omega))).trans (((congrFun e5 _).trans (updC_ne (by omega))).trans (((congrFun e4 _).trans (updC_ne (by omega))).trans (((congrFun e3 _).trans (updC_ne (by omega))).trans (((congrFun e2 _).trans (updC_ne (by omega))).trans ((congrFun e1 _).trans updC_eq))))))))), ⟨((congrFun e10 _).trans (updC_ne (by omega))).trans (((congrFun e9 _).trans (updC_ne (by omega))).trans (((congrFun e8 _).trans (updC_ne (by omega))).trans (((congrFun e7 _).trans (updC_ne (by omega))).trans (((congrFun e6 _).trans (updC_ne (by omega))).trans (((congrFun e5 _).trans (updC_ne (by omega))).trans (((congrFun e4 _).trans (updC_ne (by omega))).trans ((congrFun e3 _).trans updC_eq))))))), ⟨((congrFun e10 _).trans (updC_ne (by omega))).trans (((congrFun e9 _).trans (updC_ne (by omega))).trans (((congrFun e8 _).trans (updC_ne (by omega))).trans (((congrFun e7 _).trans (updC_ne (by omega))).trans (((congrFun e6 _).trans (updC_ne (by omega))).trans ((congrFun e5 _).trans updC_eq))))), ⟨((congrFun e10 _).trans (updC_ne (by omega))).trans (((congrFun e9 _).trans (updC_ne (by omega))).trans (((congrFun e8 _).trans (updC_ne (by omega))).trans ((congrFun e7 _).trans updC_eq))), ⟨((congrFun e10 _).trans (updC_ne (by omega))).trans ((congrFun e9 _).trans updC_eq), trivial⟩⟩⟩⟩⟩⟩⟩
def Standbys_l (a : Nat) : List PC := (7, [.ref (a + 1), .ref (a + 2), .int 0]) :: ((100, List.replicate 8 (.int 0)) :: ((100, List.replicate 8 (.int 0)) :: ([])))
theorem ct_Standbys {E : EV} {C : Nat → PC} {a : Nat} (hm : eM E = false) (hx : a + 3 < 2000) (h0 : C a = (7, dfl 7)) : Ev E M_Standbys_init [.ref a] (wdC (a + 1) C, true) 2 16 (Post a C (Standbys_l a)) := by
  refine Ev.of pn_Standbys rfl (leK rfl) ?_
  show Go E M_Standbys_init 2 16 0 [(0, .ref a)] [] (wdC (a + 1) C, true) 0 0 (Post a C (Standbys_l a))
  have h0 : C a = (7, [.null, .null, .int 0]) := h0
  refine g_aloadn (pc := 0) (i0 := 0) (j := 0) (dK D_Standbys_init 0 rfl) rfl rfl ?_
  refine g_objinit (pc := 1) (dK D_Standbys_init 1 rfl) q_176 (leK rfl) (leK rfl) (leK rfl) ?_
  refine g_aloadn (pc := 4) (i0 := 0) (j := 0) (dK D_Standbys_init 2 rfl) rfl rfl ?_
  refine vg_bipush' (pc := 5) (dK D_Standbys_init 3 rfl) rfl ?_
  obtain ⟨C1, e1⟩ : ∃ D : Nat → PC, D = updC C (a + 1) (100, List.replicate 8 (.int 0)) := ⟨_, rfl⟩
  refine c_newarr_int hm (pc := 7) (M := 8) (N1 := (a + 2)) (dK D_Standbys_init 4 rfl) rfl (leK rfl) (leK rfl) (by unfold XB; omega) rfl e1 ?_
  have f1 : C1 a = (7, [.null, .null, .int 0]) := by rw [e1, updC_ne (by omega)]; exact h0
  obtain ⟨C2, e2⟩ : ∃ D : Nat → PC, D = updC C1 a (7, [.ref (a + 1), .null, .int 0]) := ⟨_, rfl⟩
  refine c_putF (pc := 9) (ci := 7) (f := 0) (dK D_Standbys_init 5 rfl) q_177 (ltK rfl) (ltK rfl) rfl rfl rfl (okV_arr _ _) (by omega) (by unfold XB; omega) f1 (ltK rfl) rfl e2 ?_
  have f2 : C2 a = (7, [.ref (a + 1), .null, .int 0]) := by rw [e2]; exact updC_eq
  refine g_aloadn (pc := 12) (i0 := 0) (j := 0) (dK D_Standbys_init 6 rfl) rfl rfl ?_
  refine vg_bipush' (pc := 13) (dK D_Standbys_init 7 rfl) rfl ?_
  obtain ⟨C3, e3⟩ : ∃ D : Nat → PC, D = updC C2 (a + 2) (100, List.replicate 8 (.int 0)) := ⟨_, rfl⟩
  refine c_newarr_int hm (pc := 15) (M := 8) (N1 := (a + 3)) (dK D_Standbys_init 8 rfl) rfl (leK rfl) (leK rfl) (by unfold XB; omega) rfl e3 ?_
  have f3 : C3 a = (7, [.ref (a + 1), .null, .int 0]) := by rw [e3, updC_ne (by omega)]; exact f2
  obtain ⟨C4, e4⟩ : ∃ D : Nat → PC, D = updC C3 a (7, [.ref (a + 1), .ref (a + 2), .int 0]) := ⟨_, rfl⟩
  refine c_putF (pc := 17) (ci := 7) (f := 1) (dK D_Standbys_init 9 rfl) q_180 (ltK rfl) (ltK rfl) rfl rfl rfl (okV_arr _ _) (by omega) (by unfold XB; omega) f3 (ltK rfl) rfl e4 ?_
  have f4 : C4 a = (7, [.ref (a + 1), .ref (a + 2), .int 0]) := by rw [e4]; exact updC_eq
  exact g_return (pc := 20) (dK D_Standbys_init 10 rfl) rfl (leK rfl) (leK rfl) (fun _ => rfl) ⟨rfl, C4, rfl, fun x hx => ((congrFun e4 _).trans (updC_ne (by omega))).trans (((congrFun e3 _).trans (updC_ne (by omega))).trans (((congrFun e2 _).trans (updC_ne (by omega))).trans (((congrFun e1 _).trans (updC_ne (by omega))).trans (rfl)))), ⟨f4, ⟨((congrFun e4 _).trans (updC_ne (by omega))).trans (((congrFun e3 _).trans (updC_ne (by omega))).trans (((congrFun e2 _).trans (updC_ne (by omega))).trans ((congrFun e1 _).trans updC_eq))), ⟨((congrFun e4 _).trans (updC_ne (by omega))).trans ((congrFun e3 _).trans updC_eq), trivial⟩⟩⟩⟩
def Forms_l (a : Nat) : List PC := (2, [.ref (a + 1), .ref (a + 2), .ref (a + 3)]) :: ((100, List.replicate 8 (.int 0)) :: ((100, List.replicate 8 (.int 0)) :: ((100, List.replicate 8 (.int 0)) :: ([]))))
theorem ct_Forms {E : EV} {C : Nat → PC} {a : Nat} (hm : eM E = false) (hx : a + 4 < 2000) (h0 : C a = (2, dfl 2)) : Ev E M_Forms_init [.ref a] (wdC (a + 1) C, true) 3 24 (Post a C (Forms_l a)) := by
  refine Ev.of pn_Forms rfl (leK rfl) ?_
  show Go E M_Forms_init 3 24 0 [(0, .ref a)] [] (wdC (a + 1) C, true) 0 0 (Post a C (Forms_l a))
  have h0 : C a = (2, [.null, .null, .null]) := h0
  refine g_aloadn (pc := 0) (i0 := 0) (j := 0) (dK D_Forms_init 0 rfl) rfl rfl ?_
  refine g_objinit (pc := 1) (dK D_Forms_init 1 rfl) q_199 (leK rfl) (leK rfl) (leK rfl) ?_
  refine g_aloadn (pc := 4) (i0 := 0) (j := 0) (dK D_Forms_init 2 rfl) rfl rfl ?_
  refine vg_bipush' (pc := 5) (dK D_Forms_init 3 rfl) rfl ?_
  obtain ⟨C1, e1⟩ : ∃ D : Nat → PC, D = updC C (a + 1) (100, List.replicate 8 (.int 0)) := ⟨_, rfl⟩
  refine c_newarr_int hm (pc := 7) (M := 8) (N1 := (a + 2)) (dK D_Forms_init 4 rfl) rfl (leK rfl) (leK rfl) (by unfold XB; omega) rfl e1 ?_
  have f1 : C1 a = (2, [.null, .null, .null]) := by rw [e1, updC_ne (by omega)]; exact h0
  obtain ⟨C2, e2⟩ : ∃ D : Nat → PC, D = updC C1 a (2, [.ref (a + 1), .null, .null]) := ⟨_, rfl⟩
  refine c_putF (pc := 9) (ci := 2) (f := 0) (dK D_Forms_init 5 rfl) q_200 (ltK rfl) (ltK rfl) rfl rfl rfl (okV_arr _ _) (by omega) (by unfold XB; omega) f1 (ltK rfl) rfl e2 ?_
  have f2 : C2 a = (2, [.ref (a + 1), .null, .null]) := by rw [e2]; exact updC_eq
  refine g_aloadn (pc := 12) (i0 := 0) (j := 0) (dK D_Forms_init 6 rfl) rfl rfl ?_
  refine vg_bipush' (pc := 13) (dK D_Forms_init 7 rfl) rfl ?_
  obtain ⟨C3, e3⟩ : ∃ D : Nat → PC, D = updC C2 (a + 2) (100, List.replicate 8 (.int 0)) := ⟨_, rfl⟩
  refine c_newarr_int hm (pc := 15) (M := 8) (N1 := (a + 3)) (dK D_Forms_init 8 rfl) rfl (leK rfl) (leK rfl) (by unfold XB; omega) rfl e3 ?_
  have f3 : C3 a = (2, [.ref (a + 1), .null, .null]) := by rw [e3, updC_ne (by omega)]; exact f2
  obtain ⟨C4, e4⟩ : ∃ D : Nat → PC, D = updC C3 a (2, [.ref (a + 1), .ref (a + 2), .null]) := ⟨_, rfl⟩
  refine c_putF (pc := 17) (ci := 2) (f := 1) (dK D_Forms_init 9 rfl) q_205 (ltK rfl) (ltK rfl) rfl rfl rfl (okV_arr _ _) (by omega) (by unfold XB; omega) f3 (ltK rfl) rfl e4 ?_
  have f4 : C4 a = (2, [.ref (a + 1), .ref (a + 2), .null]) := by rw [e4]; exact updC_eq
  refine g_aloadn (pc := 20) (i0 := 0) (j := 0) (dK D_Forms_init 10 rfl) rfl rfl ?_
  refine vg_bipush' (pc := 21) (dK D_Forms_init 11 rfl) rfl ?_
  obtain ⟨C5, e5⟩ : ∃ D : Nat → PC, D = updC C4 (a + 3) (100, List.replicate 8 (.int 0)) := ⟨_, rfl⟩
  refine c_newarr_int hm (pc := 23) (M := 8) (N1 := (a + 4)) (dK D_Forms_init 12 rfl) rfl (leK rfl) (leK rfl) (by unfold XB; omega) rfl e5 ?_
  have f5 : C5 a = (2, [.ref (a + 1), .ref (a + 2), .null]) := by rw [e5, updC_ne (by omega)]; exact f4
  obtain ⟨C6, e6⟩ : ∃ D : Nat → PC, D = updC C5 a (2, [.ref (a + 1), .ref (a + 2), .ref (a + 3)]) := ⟨_, rfl⟩
  refine c_putF (pc := 25) (ci := 2) (f := 2) (dK D_Forms_init 13 rfl) q_209 (ltK rfl) (ltK rfl) rfl rfl rfl (okV_arr _ _) (by omega) (by unfold XB; omega) f5 (ltK rfl) rfl e6 ?_
  have f6 : C6 a = (2, [.ref (a + 1), .ref (a + 2), .ref (a + 3)]) := by rw [e6]; exact updC_eq
  exact g_return (pc := 28) (dK D_Forms_init 14 rfl) rfl (leK rfl) (leK rfl) (fun _ => rfl) ⟨rfl, C6, rfl, fun x hx => ((congrFun e6 _).trans (updC_ne (by omega))).trans (((congrFun e5 _).trans (updC_ne (by omega))).trans (((congrFun e4 _).trans (updC_ne (by omega))).trans (((congrFun e3 _).trans (updC_ne (by omega))).trans (((congrFun e2 _).trans (updC_ne (by omega))).trans (((congrFun e1 _).trans (updC_ne (by omega))).trans (rfl)))))), ⟨f6, ⟨((congrFun e6 _).trans (updC_ne (by omega))).trans (((congrFun e5 _).trans (updC_ne (by omega))).trans (((congrFun e4 _).trans (updC_ne (by omega))).trans (((congrFun e3 _).trans (updC_ne (by omega))).trans (((congrFun e2 _).trans (updC_ne (by omega))).trans ((congrFun e1 _).trans updC_eq))))), ⟨((congrFun e6 _).trans (updC_ne (by omega))).trans (((congrFun e5 _).trans (updC_ne (by omega))).trans (((congrFun e4 _).trans (updC_ne (by omega))).trans ((congrFun e3 _).trans updC_eq))), ⟨((congrFun e6 _).trans (updC_ne (by omega))).trans ((congrFun e5 _).trans updC_eq), trivial⟩⟩⟩⟩⟩
def State_l (a : Nat) : List PC := (8, [.ref (a + 1), .ref (a + 9), .ref (a + 15), .ref (a + 18), .int 0, .int 0, .int 0, .int 0]) :: ((Ads_l (a + 1)) ++ ((Stories_l (a + 9)) ++ ((Standbys_l (a + 15)) ++ ((Forms_l (a + 18)) ++ ([])))))
theorem ct_State {E : EV} {C : Nat → PC} {a : Nat} (hm : eM E = false) (hx : a + 22 < 2000) (h0 : C a = (8, dfl 8)) : Ev E M_State_init [.ref a] (wdC (a + 1) C, true) 21 390 (Post a C (State_l a)) := by
  refine Ev.of pn_State rfl (leK rfl) ?_
  show Go E M_State_init 21 390 0 [(0, .ref a)] [] (wdC (a + 1) C, true) 0 0 (Post a C (State_l a))
  have h0 : C a = (8, [.null, .null, .null, .null, .int 0, .int 0, .int 0, .int 0]) := h0
  refine g_aloadn (pc := 0) (i0 := 0) (j := 0) (dK D_State_init 0 rfl) rfl rfl ?_
  refine g_objinit (pc := 1) (dK D_State_init 1 rfl) q_69 (leK rfl) (leK rfl) (leK rfl) ?_
  refine g_aloadn (pc := 4) (i0 := 0) (j := 0) (dK D_State_init 2 rfl) rfl rfl ?_
  obtain ⟨C1, e1⟩ : ∃ D : Nat → PC, D = updC C (a + 1) (0, dfl 0) := ⟨_, rfl⟩
  refine c_new hm (pc := 5) (ci := 0) (N1 := (a + 2)) (dK D_State_init 3 rfl) (ltK rfl) q_70 q_71 q_6 (leK rfl) (leK rfl) (by unfold XB; omega) rfl e1 ?_
  have f1 : C1 a = (8, [.null, .null, .null, .null, .int 0, .int 0, .int 0, .int 0]) := by rw [e1, updC_ne (by omega)]; exact h0
  refine g_dup (pc := 8) (dK D_State_init 4 rfl) rfl ?_
  refine c_callIN (pc := 9) (As := []) (rest := [.ref (a + 1), .ref a]) (mc' := 7) (ms' := 280) (dK D_State_init 5 rfl) K_State_9 (fitK rfl) rfl (leK rfl) (leK rfl) (leK rfl) (ct_Ads hm (C := C1) (a := a + 1) (by omega) ((congrFun e1 _).trans updC_eq)) (postI (fun C2 p2 b2 => ?_))
  have f2 : C2 a = (8, [.null, .null, .null, .null, .int 0, .int 0, .int 0, .int 0]) := by rw [p2 a (by omega)]; exact f1
  show Go E M_State_init 21 390 12 [(0, .ref a)] [.ref (a + 1), .ref a] (wdC (a + 9) C2, true) _ _ _
  obtain ⟨C3, e3⟩ : ∃ D : Nat → PC, D = updC C2 a (8, [.ref (a + 1), .null, .null, .null, .int 0, .int 0, .int 0, .int 0]) := ⟨_, rfl⟩
  refine c_putF (pc := 12) (ci := 8) (f := 0) (dK D_State_init 6 rfl) q_220 (ltK rfl) (ltK rfl) rfl rfl rfl (okV_obj _ _) (by omega) (by unfold XB; omega) f2 (ltK rfl) rfl e3 ?_
  have f3 : C3 a = (8, [.ref (a + 1), .null, .null, .null, .int 0, .int 0, .int 0, .int 0]) := by rw [e3]; exact updC_eq
  refine g_aloadn (pc := 15) (i0 := 0) (j := 0) (dK D_State_init 7 rfl) rfl rfl ?_
  obtain ⟨C4, e4⟩ : ∃ D : Nat → PC, D = updC C3 (a + 9) (9, dfl 9) := ⟨_, rfl⟩
  refine c_new hm (pc := 16) (ci := 9) (N1 := (a + 10)) (dK D_State_init 8 rfl) (ltK rfl) q_127 q_128 q_7 (leK rfl) (leK rfl) (by unfold XB; omega) rfl e4 ?_
  have f4 : C4 a = (8, [.ref (a + 1), .null, .null, .null, .int 0, .int 0, .int 0, .int 0]) := by rw [e4, updC_ne (by omega)]; exact f3
  refine g_dup (pc := 19) (dK D_State_init 9 rfl) rfl ?_
  refine c_callIN (pc := 20) (As := []) (rest := [.ref (a + 9), .ref a]) (mc' := 5) (ms' := 50) (dK D_State_init 10 rfl) K_State_18 (fitK rfl) rfl (leK rfl) (leK rfl) (leK rfl) (ct_Stories hm (C := C4) (a := a + 9) (by omega) ((congrFun e4 _).trans updC_eq)) (postI (fun C5 p5 b5 => ?_))
  have f5 : C5 a = (8, [.ref (a + 1), .null, .null, .null, .int 0, .int 0, .int 0, .int 0]) := by rw [p5 a (by omega)]; exact f4
  show Go E M_State_init 21 390 23 [(0, .ref a)] [.ref (a + 9), .ref a] (wdC (a + 15) C5, true) _ _ _
  obtain ⟨C6, e6⟩ : ∃ D : Nat → PC, D = updC C5 a (8, [.ref (a + 1), .ref (a + 9), .null, .null, .int 0, .int 0, .int 0, .int 0]) := ⟨_, rfl⟩
  refine c_putF (pc := 23) (ci := 8) (f := 1) (dK D_State_init 11 rfl) q_225 (ltK rfl) (ltK rfl) rfl rfl rfl (okV_obj _ _) (by omega) (by unfold XB; omega) f5 (ltK rfl) rfl e6 ?_
  have f6 : C6 a = (8, [.ref (a + 1), .ref (a + 9), .null, .null, .int 0, .int 0, .int 0, .int 0]) := by rw [e6]; exact updC_eq
  refine g_aloadn (pc := 26) (i0 := 0) (j := 0) (dK D_State_init 12 rfl) rfl rfl ?_
  obtain ⟨C7, e7⟩ : ∃ D : Nat → PC, D = updC C6 (a + 15) (7, dfl 7) := ⟨_, rfl⟩
  refine c_new hm (pc := 27) (ci := 7) (N1 := (a + 16)) (dK D_State_init 13 rfl) (ltK rfl) q_171 q_172 q_8 (leK rfl) (leK rfl) (by unfold XB; omega) rfl e7 ?_
  have f7 : C7 a = (8, [.ref (a + 1), .ref (a + 9), .null, .null, .int 0, .int 0, .int 0, .int 0]) := by rw [e7, updC_ne (by omega)]; exact f6
  refine g_dup (pc := 30) (dK D_State_init 14 rfl) rfl ?_
  refine c_callIN (pc := 31) (As := []) (rest := [.ref (a + 15), .ref a]) (mc' := 2) (ms' := 16) (dK D_State_init 15 rfl) K_State_25 (fitK rfl) rfl (leK rfl) (leK rfl) (leK rfl) (ct_Standbys hm (C := C7) (a := a + 15) (by omega) ((congrFun e7 _).trans updC_eq)) (postI (fun C8 p8 b8 => ?_))
  have f8 : C8 a = (8, [.ref (a + 1), .ref (a + 9), .null, .null, .int 0, .int 0, .int 0, .int 0]) := by rw [p8 a (by omega)]; exact f7
  show Go E M_State_init 21 390 34 [(0, .ref a)] [.ref (a + 15), .ref a] (wdC (a + 18) C8, true) _ _ _
  obtain ⟨C9, e9⟩ : ∃ D : Nat → PC, D = updC C8 a (8, [.ref (a + 1), .ref (a + 9), .ref (a + 15), .null, .int 0, .int 0, .int 0, .int 0]) := ⟨_, rfl⟩
  refine c_putF (pc := 34) (ci := 8) (f := 2) (dK D_State_init 16 rfl) q_230 (ltK rfl) (ltK rfl) rfl rfl rfl (okV_obj _ _) (by omega) (by unfold XB; omega) f8 (ltK rfl) rfl e9 ?_
  have f9 : C9 a = (8, [.ref (a + 1), .ref (a + 9), .ref (a + 15), .null, .int 0, .int 0, .int 0, .int 0]) := by rw [e9]; exact updC_eq
  refine g_aloadn (pc := 37) (i0 := 0) (j := 0) (dK D_State_init 17 rfl) rfl rfl ?_
  obtain ⟨C10, e10⟩ : ∃ D : Nat → PC, D = updC C9 (a + 18) (2, dfl 2) := ⟨_, rfl⟩
  refine c_new hm (pc := 38) (ci := 2) (N1 := (a + 19)) (dK D_State_init 18 rfl) (ltK rfl) q_194 q_195 q_9 (leK rfl) (leK rfl) (by unfold XB; omega) rfl e10 ?_
  have f10 : C10 a = (8, [.ref (a + 1), .ref (a + 9), .ref (a + 15), .null, .int 0, .int 0, .int 0, .int 0]) := by rw [e10, updC_ne (by omega)]; exact f9
  refine g_dup (pc := 41) (dK D_State_init 19 rfl) rfl ?_
  refine c_callIN (pc := 42) (As := []) (rest := [.ref (a + 18), .ref a]) (mc' := 3) (ms' := 24) (dK D_State_init 20 rfl) K_State_32 (fitK rfl) rfl (leK rfl) (leK rfl) (leK rfl) (ct_Forms hm (C := C10) (a := a + 18) (by omega) ((congrFun e10 _).trans updC_eq)) (postI (fun C11 p11 b11 => ?_))
  have f11 : C11 a = (8, [.ref (a + 1), .ref (a + 9), .ref (a + 15), .null, .int 0, .int 0, .int 0, .int 0]) := by rw [p11 a (by omega)]; exact f10
  show Go E M_State_init 21 390 45 [(0, .ref a)] [.ref (a + 18), .ref a] (wdC (a + 22) C11, true) _ _ _
  obtain ⟨C12, e12⟩ : ∃ D : Nat → PC, D = updC C11 a (8, [.ref (a + 1), .ref (a + 9), .ref (a + 15), .ref (a + 18), .int 0, .int 0, .int 0, .int 0]) := ⟨_, rfl⟩
  refine c_putF (pc := 45) (ci := 8) (f := 3) (dK D_State_init 21 rfl) q_234 (ltK rfl) (ltK rfl) rfl rfl rfl (okV_obj _ _) (by omega) (by unfold XB; omega) f11 (ltK rfl) rfl e12 ?_
  have f12 : C12 a = (8, [.ref (a + 1), .ref (a + 9), .ref (a + 15), .ref (a + 18), .int 0, .int 0, .int 0, .int 0]) := by rw [e12]; exact updC_eq
  exact g_return (pc := 48) (dK D_State_init 22 rfl) rfl (leK rfl) (leK rfl) (fun _ => rfl) ⟨rfl, C12, rfl, fun x hx => ((congrFun e12 _).trans (updC_ne (by omega))).trans ((p11 _ (by omega)).trans (((congrFun e10 _).trans (updC_ne (by omega))).trans (((congrFun e9 _).trans (updC_ne (by omega))).trans ((p8 _ (by omega)).trans (((congrFun e7 _).trans (updC_ne (by omega))).trans (((congrFun e6 _).trans (updC_ne (by omega))).trans ((p5 _ (by omega)).trans (((congrFun e4 _).trans (updC_ne (by omega))).trans (((congrFun e3 _).trans (updC_ne (by omega))).trans ((p2 _ (by omega)).trans (((congrFun e1 _).trans (updC_ne (by omega))).trans (rfl)))))))))))), ⟨f12, Blk.app' (n := 8) rfl (Blk.pres (fun x h1 h2 => ((congrFun e12 _).trans (updC_ne (by have h2 : x < _ + 8 := h2; omega))).trans ((p11 _ (by have h2 : x < _ + 8 := h2; omega)).trans (((congrFun e10 _).trans (updC_ne (by have h2 : x < _ + 8 := h2; omega))).trans (((congrFun e9 _).trans (updC_ne (by have h2 : x < _ + 8 := h2; omega))).trans ((p8 _ (by have h2 : x < _ + 8 := h2; omega)).trans (((congrFun e7 _).trans (updC_ne (by have h2 : x < _ + 8 := h2; omega))).trans (((congrFun e6 _).trans (updC_ne (by have h2 : x < _ + 8 := h2; omega))).trans ((p5 _ (by have h2 : x < _ + 8 := h2; omega)).trans (((congrFun e4 _).trans (updC_ne (by have h2 : x < _ + 8 := h2; omega))).trans (((congrFun e3 _).trans (updC_ne (by have h2 : x < _ + 8 := h2; omega))).trans (rfl))))))))))) b2) (Blk.app' (n := 6) rfl (Blk.pres (fun x h1 h2 => ((congrFun e12 _).trans (updC_ne (by have h2 : x < _ + 6 := h2; omega))).trans ((p11 _ (by have h2 : x < _ + 6 := h2; omega)).trans (((congrFun e10 _).trans (updC_ne (by have h2 : x < _ + 6 := h2; omega))).trans (((congrFun e9 _).trans (updC_ne (by have h2 : x < _ + 6 := h2; omega))).trans ((p8 _ (by have h2 : x < _ + 6 := h2; omega)).trans (((congrFun e7 _).trans (updC_ne (by have h2 : x < _ + 6 := h2; omega))).trans (((congrFun e6 _).trans (updC_ne (by have h2 : x < _ + 6 := h2; omega))).trans (rfl)))))))) b5) (Blk.app' (n := 3) rfl (Blk.pres (fun x h1 h2 => ((congrFun e12 _).trans (updC_ne (by have h2 : x < _ + 3 := h2; omega))).trans ((p11 _ (by have h2 : x < _ + 3 := h2; omega)).trans (((congrFun e10 _).trans (updC_ne (by have h2 : x < _ + 3 := h2; omega))).trans (((congrFun e9 _).trans (updC_ne (by have h2 : x < _ + 3 := h2; omega))).trans (rfl))))) b8) (Blk.app' (n := 4) rfl (Blk.pres (fun x h1 h2 => ((congrFun e12 _).trans (updC_ne (by have h2 : x < _ + 4 := h2; omega))).trans (rfl)) b11) (trivial))))⟩⟩
def Bytes_l (M a : Nat) : List PC := (1, [.ref (a + 1), .int 0]) :: [(100, List.replicate M (.int 0))]
theorem ct_Bytes {E : EV} {C : Nat → PC} {a M : Nat} (hm : eM E = false) (hM : Nat.ble M 16384 = true) (hx : a + 2 < 2000) (h0 : C a = (1, dfl 1)) : Ev E M_Bytes_init [.ref a, V (M : Int)] (wdC (a + 1) C, true) 1 M (Post a C (Bytes_l M a)) := by
  refine Ev.of pn_Bytes rfl (leK rfl) ?_
  show Go E M_Bytes_init 1 M 0 [(0, .ref a), (1, V (M : Int))] [] (wdC (a + 1) C, true) 0 0 (Post a C (Bytes_l M a))
  have h0 : C a = (1, [.null, .int 0]) := h0
  have hM' := Nat.le_of_ble_eq_true hM
  refine g_aloadn (pc := 0) (i0 := 0) (j := 0) (dK D_Bytes_init 0 rfl) rfl rfl ?_
  refine g_objinit (pc := 1) (dK D_Bytes_init 1 rfl) q_47 (leK rfl) (leK rfl) (leK rfl) ?_
  refine g_aloadn (pc := 4) (i0 := 0) (j := 0) (dK D_Bytes_init 2 rfl) rfl rfl ?_
  refine g_iloadn (pc := 5) (i0 := 1) (j := 1) (dK D_Bytes_init 3 rfl) rfl rfl ?_
  refine g_if_ge (pc := 6) (tgt := 13) (dK D_Bytes_init 4 rfl) rfl (fun _ => ?_) (fun hc => absurd ((I_le inR0 (by unfold inR; omega)).mpr (by omega)) hc)
  refine g_iloadn (pc := 13) (i0 := 1) (j := 1) (dK D_Bytes_init 7 rfl) rfl rfl ?_
  obtain ⟨C1, e1⟩ : ∃ D : Nat → PC, D = updC C (a + 1) (100, List.replicate M (.int 0)) := ⟨_, rfl⟩
  refine c_newarr_int hm (pc := 14) (M := M) (N1 := (a + 2)) (dK D_Bytes_init 8 rfl) hM (leK rfl) (by omega) (by unfold XB; omega) rfl e1 ?_
  have f1 : C1 a = (1, [.null, .int 0]) := by rw [e1, updC_ne (by omega)]; exact h0
  obtain ⟨C2, e2⟩ : ∃ D : Nat → PC, D = updC C1 a (1, [.ref (a + 1), .int 0]) := ⟨_, rfl⟩
  refine c_putF (pc := 16) (ci := 1) (f := 0) (dK D_Bytes_init 9 rfl) q_48 (ltK rfl) (ltK rfl) rfl rfl rfl (okV_arr _ _) (by omega) (by unfold XB; omega) f1 (ltK rfl) rfl e2 ?_
  have f2 : C2 a = (1, [.ref (a + 1), .int 0]) := by rw [e2]; exact updC_eq
  exact g_return (pc := 19) (dK D_Bytes_init 10 rfl) rfl (leK rfl) (by omega) (fun _ => rfl) ⟨rfl, C2, rfl, fun x hx => ((congrFun e2 _).trans (updC_ne (by omega))).trans (((congrFun e1 _).trans (updC_ne (by omega))).trans rfl), ⟨f2, ⟨((congrFun e2 _).trans (updC_ne (by omega))).trans ((congrFun e1 _).trans updC_eq), trivial⟩⟩⟩
def kept_l (a i : Nat) : List Value := (List.range 20).map (fun j => if j < i then .ref (a + 2 + 22 * j) else .null)
def hist_l (a : Nat) : List PC := (3, [.ref (a + 1), .int 0, .int 0]) :: ((105, kept_l a 20) :: ((List.range 20).flatMap (fun j => State_l (a + 2 + 22 * j))))
theorem hist_len {a : Nat} : (hist_l a).length = 442 := by
  have q := (Blk.flat (C := fun _ => (0, [])) (f := fun j => State_l (a + 2 + 22 * j)) (fun _ => rfl) (n := 0) (b := 0) (fun j hj => by omega)).2
  have e : ∀ n : Nat, ((List.range n).flatMap (fun j => State_l (a + 2 + 22 * j))).length = 22 * n := by
    intro n
    induction n with
    | zero => rfl
    | succ n ih =>
      rw [List.range_succ, List.flatMap_append, List.length_append, ih, List.flatMap_cons, List.flatMap_nil, List.append_nil]
      show 22 * n + 22 = _
      omega
  unfold hist_l
  rw [List.length_cons, List.length_cons, e]
theorem kept_set {a i : Nat} : (kept_l a i).set i (.ref (a + 2 + 22 * i)) = kept_l a (i + 1) := by
  unfold kept_l
  refine (map_set (fun _ => ?_) (fun j hj => ?_)).symm
  · exact if_pos (by omega)
  · by_cases h : j < i
    · rw [if_pos h, if_pos (by omega)]
    · rw [if_neg h, if_neg (by omega)]
theorem kept_len {a i : Nat} : (kept_l a i).length = 20 := by unfold kept_l; rw [List.length_map, List.length_range]
section HistLoop
variable {E : EV} {Y : MI} {mc ms pc k n N : Nat} {ls : List (Nat × Value)} {st : List Value} {C C1 : Nat → PC} {K : RK → PS → Prop}
theorem c_aast {a b i : Nat} {vs fs : List Value} (hd : decode (mBy Y) pc = .ok (.aastore, 1)) (ha : a < N) (hb : b < N) (hN : N ≤ XB) (hc : C a = (105, vs)) (hcb : C b = (8, fs)) (hi : i < vs.length) (hi2 : i ≤ 9999) (e : C1 = updC C a (105, vs.set i (.ref b)))
    (h : Go E Y mc ms (pc + 1) ls st (wdC N C1, true) k n K) : Go E Y mc ms pc ls (.ref b :: V (i : Int) :: .ref a :: st) (wdC N C, true) k n K := by
  subst e
  have e1 : (Int32.ofInt (i : Int)).toInt = (i : Int) := I_toInt (by unfold inR; omega)
  have e2 : (Int32.ofInt (i : Int)).toInt.toNat = i := by omega
  refine g_aastore hd (Nat.lt_of_lt_of_le ha hN) (Nat.lt_of_lt_of_le hb hN) (vs := vs) (fs := fs) (by rw [← hc]; exact wdc_at ha) (by rw [← hcb]; exact wdc_at hb) (by omega) (by rw [e2]; exact hi) ?_
  rw [e2]
  show Go E Y mc ms (pc + 1) ls st ((wdC N C).set a _, true) k n K
  rw [wdc_set]
  exact h
end HistLoop
theorem ct_hloop {E : EV} {C : Nat → PC} {a : Nat} (hm : eM E = false) (hx : a + 442 < 2000) : ∀ (m i : Nat) (Ci : Nat → PC), i + m = 20 → (∀ x, x < a → Ci x = C x) → Ci a = (3, [.ref (a + 1), .int 0, .int 0]) → Ci (a + 1) = (105, kept_l a i) → (∀ j, j < i → Blk Ci (a + 2 + 22 * j) (State_l (a + 2 + 22 * j))) →
    Go E M_History_init 441 7980 15 [(0, .ref a), (1, V (i : Int))] [] (wdC (a + 2 + 22 * i) Ci, true) (1 + 22 * i) (20 + 398 * i) (Post a C (hist_l a)) := by
  intro m
  induction m with
  | zero =>
    intro i Ci hi hp ha hk hb
    have hi : i = 20 := by omega
    subst hi
    refine g_iloadn (pc := 15) (i0 := 1) (j := 1) (dK D_History_init 8 rfl) rfl rfl ?_
    refine vg_bipush' (pc := 16) (dK D_History_init 9 rfl) rfl ?_
    refine g_icmp_ge (pc := 18) (tgt := 40) (dK D_History_init 10 rfl) rfl (fun _ => ?_) (fun hc => absurd (by decide) hc)
    have q := Blk.flat (C := Ci) (f := fun j => State_l (a + 2 + 22 * j)) (fun _ => rfl) (n := 20) (b := a + 2) hb
    have hl : (hist_l a).length = 442 := by unfold hist_l; rw [List.length_cons, List.length_cons, q.2]
    exact g_return (pc := 40) (dK D_History_init 20 rfl) rfl (leK rfl) (leK rfl) (fun _ => rfl) ⟨rfl, Ci, by rw [hl], hp, ⟨ha, ⟨hk, q.1⟩⟩⟩
  | succ m ih =>
    intro i Ci hi hp ha hk hb
    refine g_iloadn (pc := 15) (i0 := 1) (j := 1) (dK D_History_init 8 rfl) rfl rfl ?_
    refine vg_bipush' (pc := 16) (dK D_History_init 9 rfl) rfl ?_
    refine g_icmp_ge (pc := 18) (tgt := 40) (dK D_History_init 10 rfl) rfl (fun hc => absurd ((I_le (a := 20) (inRk rfl) (by unfold inR; omega)).mp hc) (by omega)) (fun _ => ?_)
    refine g_aloadn (pc := 21) (i0 := 0) (j := 0) (dK D_History_init 11 rfl) rfl rfl ?_
    refine c_get (pc := 22) (ci := 3) (f := 0) (dK D_History_init 12 rfl) q_409 (ltK rfl) (ltK rfl) (by omega) (by unfold XB; omega) ha rfl ?_
    refine g_iloadn (pc := 25) (i0 := 1) (j := 1) (dK D_History_init 13 rfl) rfl rfl ?_
    obtain ⟨C1, e1⟩ : ∃ D : Nat → PC, D = updC Ci (a + 2 + 22 * i) (8, dfl 8) := ⟨_, rfl⟩
    refine c_new hm (pc := 26) (ci := 8) (N1 := a + 2 + 22 * i + 1) (dK D_History_init 14 rfl) (ltK rfl) q_406 q_65 q_5 (by omega) (by show 20 + 398 * i + 8 ≤ 7980; omega) (by unfold XB; omega) rfl e1 ?_
    refine g_dup (pc := 29) (dK D_History_init 15 rfl) rfl ?_
    refine c_callIN (pc := 30) (As := []) (rest := [.ref (a + 2 + 22 * i), V (i : Int), .ref (a + 1)]) (mc' := 21) (ms' := 390) (dK D_History_init 16 rfl) K_History_17 (fitK rfl) rfl (leK rfl) (by omega) (by show 20 + 398 * i + 8 + 390 ≤ 7980; omega) (ct_State hm (C := C1) (a := a + 2 + 22 * i) (by omega) ((congrFun e1 _).trans updC_eq)) (postI (fun C2 p2 b2 => ?_))
    show Go E M_History_init 441 7980 33 [(0, .ref a), (1, V (i : Int))] [.ref (a + 2 + 22 * i), V (i : Int), .ref (a + 1)] (wdC (a + 2 + 22 * i + 22) C2, true) _ _ _
    obtain ⟨C3, e3⟩ : ∃ D : Nat → PC, D = updC C2 (a + 1) (105, (kept_l a i).set i (.ref (a + 2 + 22 * i))) := ⟨_, rfl⟩
    have f2 : C2 (a + 1) = (105, kept_l a i) := by rw [p2 _ (by omega), e1, updC_ne (by omega)]; exact hk
    refine c_aast (pc := 33) (dK D_History_init 17 rfl) (by omega) (by omega) (by unfold XB; omega) f2 b2.1 (by rw [kept_len]; omega) (by omega) e3 ?_
    have ei : ((i + 1 : Nat) : Int) = wr ((i : Int) + 1) := by rw [wr_id (by unfold inR; omega)]; omega
    refine vg_iinc (pc := 34) (j := 1) (a := (i : Int)) (z := 1) (x := ((i + 1 : Nat) : Int)) (ls2 := [(1, V ((i + 1 : Nat) : Int)), (0, .ref a)]) (dK D_History_init 18 rfl) rfl ei (ltK rfl) rfl ?_
    refine g_goto (pc := 37) (tgt := 15) (dK D_History_init 19 rfl) rfl ?_
    refine gL_weak (ls' := [(0, .ref a), (1, V ((i + 1 : Nat) : Int))]) (sbc 1 rfl (sbc 0 rfl sbn)) ?_
    have low : ∀ x, x < a + 2 + 22 * i → x ≠ a + 1 → C3 x = Ci x := fun x h1 h2 => ((congrFun e3 _).trans (updC_ne h2)).trans ((p2 _ h1).trans ((congrFun e1 _).trans (updC_ne (by omega))))
    have q := ih (i + 1) C3 (by omega) (fun x h => (low x (by omega) (by omega)).trans (hp x h)) ((low a (by omega) (by omega)).trans ha) (by rw [e3, updC_eq, kept_set]) (fun j hj => by
      by_cases hj2 : j = i
      · subst hj2
        exact Blk.pres (fun x h1 h2 => (congrFun e3 _).trans (updC_ne (by omega))) b2
      · exact Blk.pres (fun x h1 h2 => low x (by have h2 : x < a + 2 + 22 * j + 22 := h2; omega) (by omega)) (hb j (by omega)))
    rw [show a + 2 + 22 * (i + 1) = a + 2 + 22 * i + 22 by omega, show 1 + 22 * (i + 1) = 1 + 22 * i + 1 + 21 by omega, show 20 + 398 * (i + 1) = 20 + 398 * i + NC 8 + 390 by show _ = 20 + 398 * i + 8 + 390; omega] at q
    exact q
theorem ct_History {E : EV} {C : Nat → PC} {a : Nat} (hm : eM E = false) (hx : a + 442 < 2000) (h0 : C a = (3, dfl 3)) : Ev E M_History_init [.ref a] (wdC (a + 1) C, true) 441 7980 (Post a C (hist_l a)) := by
  refine Ev.of pn_History rfl (leK rfl) ?_
  show Go E M_History_init 441 7980 0 [(0, .ref a)] [] (wdC (a + 1) C, true) 0 0 (Post a C (hist_l a))
  have h0 : C a = (3, [.null, .int 0, .int 0]) := h0
  refine g_aloadn (pc := 0) (i0 := 0) (j := 0) (dK D_History_init 0 rfl) rfl rfl ?_
  refine g_objinit (pc := 1) (dK D_History_init 1 rfl) q_405 (leK rfl) (leK rfl) (leK rfl) ?_
  refine g_aloadn (pc := 4) (i0 := 0) (j := 0) (dK D_History_init 2 rfl) rfl rfl ?_
  refine vg_bipush' (pc := 5) (dK D_History_init 3 rfl) rfl ?_
  obtain ⟨C1, e1⟩ : ∃ D : Nat → PC, D = updC C (a + 1) (105, List.replicate 20 .null) := ⟨_, rfl⟩
  refine c_anew hm (pc := 7) (M := 20) (N1 := a + 2) (dK D_History_init 4 rfl) q_406 rfl (leK rfl) (leK rfl) (by unfold XB; omega) rfl e1 ?_
  have f1 : C1 a = (3, [.null, .int 0, .int 0]) := by rw [e1, updC_ne (by omega)]; exact h0
  obtain ⟨C2, e2⟩ : ∃ D : Nat → PC, D = updC C1 a (3, [.ref (a + 1), .int 0, .int 0]) := ⟨_, rfl⟩
  refine c_putF (pc := 10) (ci := 3) (f := 0) (dK D_History_init 5 rfl) q_409 (ltK rfl) (ltK rfl) rfl rfl rfl (okV_arr _ _) (by omega) (by unfold XB; omega) f1 (ltK rfl) rfl e2 ?_
  refine vg_iconst' (pc := 13) (dK D_History_init 6 rfl) ?_
  refine g_istoren (pc := 14) (i0 := 1) (ls2 := [(1, V 0), (0, .ref a)]) (dK D_History_init 7 rfl) rfl (ltK rfl) rfl ?_
  refine gL_weak (ls' := [(0, .ref a), (1, V 0)]) (sbc 1 rfl (sbc 0 rfl sbn)) ?_
  exact ct_hloop hm hx 20 0 C2 rfl (fun x h => ((congrFun e2 _).trans (updC_ne (by omega))).trans ((congrFun e1 _).trans (updC_ne (by omega)))) ((congrFun e2 _).trans updC_eq) (((congrFun e2 _).trans (updC_ne (by omega))).trans ((congrFun e1 _).trans updC_eq)) (fun j hj => by omega)

def PlanP_l (a : Nat) : List PC := (4, [.ref (a + 1), .int 0, .int 0, .ref (a + 23), .ref (a + 24), .ref (a + 25), .ref (a + 26), .ref (a + 27)]) :: ((State_l (a + 1)) ++ ((100, List.replicate 65 (.int 0)) :: ((100, List.replicate 65 (.int 0)) :: ((100, List.replicate 65 (.int 0)) :: ((100, List.replicate 65 (.int 0)) :: ((100, List.replicate 330 (.int 0)) :: ([])))))))
def Z0 : St := (fun _ _ => 0, fun _ _ => 0, fun _ _ => 0)
def cS (S : St) (x : Nat) : PC := (kd x, sl S x)
theorem kd_900 : ∀ x, x < 526 → kd x < 900 := by decide +kernel
/-- the cell at a place, when the walk's numbers are S -/
def pC (S : St) (p : Nat) : PC := tC PM (cS S (LM p))
theorem pC_k {S : St} {p : Nat} (h : p < 526) : (pC S p).1 < 900 := kd_900 _ (by
  by_cases c : p < 514
  · have := (PM_LMd p c).2; omega
  · rw [LM_hi (by omega)]; exact h)
def plan_l (a : Nat) (S1 : St) : List PC := (List.range 28).map (fun j => pC S1 (a + j))
theorem plan_len {a : Nat} {S1 : St} : (plan_l a S1).length = 28 := by unfold plan_l; rw [List.length_map, List.length_range]
theorem kd_900' (x : Nat) : kd x < 900 := by
  by_cases c : x < 526
  · exact kd_900 x c
  · have e : shA x = (0, 0, []) := by
      unfold shA
      by_cases d : x / 24 < 22
      · have h : x = 24 * (x / 24) + x % 24 := (Nat.div_add_mod x 24).symm
        have h2 : x / 24 = 21 := by omega
        have h3 : 22 ≤ x % 24 := by omega
        rw [h2, List.getD_eq_getElem?_getD, List.getD_eq_getElem?_getD]
        rw [show (SH[21]?.getD [])[x % 24]? = none from List.getElem?_eq_none h3]; rfl
      · rw [List.getD_eq_getElem?_getD, List.getD_eq_getElem?_getD, List.getElem?_eq_none (show SH.length ≤ x / 24 from by show 22 ≤ _; omega)]; rfl
    unfold kd
    rw [e]
    exact ltK rfl
theorem kb_plan {a : Nat} {S1 : St} : ∀ c ∈ plan_l a S1, c.1 < 900 := fun c hc => by
  obtain ⟨j, -, rfl⟩ := List.mem_map.mp hc
  exact kd_900' _
theorem kb_Bytes {M a : Nat} : ∀ c ∈ Bytes_l M a, c.1 < 900 := fun c hc => by
  unfold Bytes_l at hc
  rcases List.mem_cons.mp hc with rfl | hc
  · exact ltK rfl
  rcases List.mem_cons.mp hc with rfl | hc
  · exact ltK rfl
  · cases hc
theorem Blk.of {C : Nat → PC} {f : Nat → PC} : ∀ {n a : Nat}, (∀ j, j < n → C (a + j) = f j) → Blk C a ((List.range n).map f) := by
  intro n
  induction n with
  | zero => intro a _; exact trivial
  | succ n ih =>
    intro a h
    rw [List.range_succ, List.map_append]
    refine Blk.app (ih (fun j hj => h j (by omega))) ?_
    rw [List.length_map, List.length_range]
    exact ⟨h n (by omega), trivial⟩
def mkX (a n : Nat) (Cn : Nat → PC) : XT := (a + n, fun x => Nat.ble a x, Cn, true)
theorem mkX_w {a n : Nat} {Cn : Nat → PC} {S : St} (h : ∀ j, j < n → Cn (a + j) = cS S (a + j)) : WX (mkX a n Cn) S = (wdC (a + n) Cn, true) := by
  unfold WX gmX mkX
  refine congrArg (fun z => (z, true)) (List.map_congr_left (fun x hx => ?_))
  have hx := List.mem_range.mp hx
  show (if Nat.ble a x = true then _ else _) = _
  by_cases c : a ≤ x
  · rw [if_pos (Nat.ble_eq.mpr c)]
    have q := h (x - a) (by have : x < a + n := hx; omega)
    rw [show a + (x - a) = x by omega] at q
    exact q.symm
  · rw [if_neg (fun z => c (Nat.ble_eq.mp z))]
theorem mkX_o {a n : Nat} {Cn : Nat → PC} {S : St} : WX (mkX a n Cn) S = (wdC (a + n) (fun x => if Nat.ble a x = true then cS S x else Cn x), true) := rfl
theorem mkX_cl {a n : Nat} {Cn : Nat → PC} (hn : a + n ≤ nCell) (h : ∀ x, x < a + n → a ≤ x → (∀ q ∈ fkT, kd x = q.1 → a ≤ tgt x q.2.1 ∧ tgt x q.2.1 < a + n) ∧ kd x ≠ 105) : Cl (mkX a n Cn) := by
  refine ⟨hn, fun x f hx hm hf => ?_⟩
  have hm := Nat.ble_eq.mp hm
  have q := h x hx hm
  rcases hf with ⟨k, l, hm2⟩ | ⟨h5, _⟩
  · have z := q.1 _ hm2 rfl
    exact ⟨z.2, Nat.ble_eq.mpr z.1⟩
  · exact absurd h5 q.2
/-- a world of the walk's numbering, of which the plan at b is told by numbers -/
def mkZ (b n : Nat) (Cn : Nat → PC) : XT := (526, fun x => Nat.ble b x && Nat.ble (x + 1) (b + 28), swD n Cn, true)
theorem mkZ_m {b n : Nat} {Cn : Nat → PC} {x : Nat} : (mkZ b n Cn).2.1 x = true ↔ b ≤ x ∧ x < b + 28 := by
  show (Nat.ble b x && Nat.ble (x + 1) (b + 28)) = true ↔ _
  rw [Bool.and_eq_true, Nat.ble_eq, Nat.ble_eq]
  exact Iff.rfl
theorem mkZ_cl {b n : Nat} {Cn : Nat → PC} (h : ∀ x, x < b + 28 → b ≤ x → (∀ q ∈ fkT, kd x = q.1 → b ≤ tgt x q.2.1 ∧ tgt x q.2.1 < b + 28) ∧ kd x ≠ 105) (hb : b + 28 ≤ 526) : Cl (mkZ b n Cn) := by
  refine ⟨Nat.le_refl _, fun x f hx hm hf => ?_⟩
  have hm := mkZ_m.mp hm
  have q := h x hm.2 hm.1
  rcases hf with ⟨k, l, hm2⟩ | ⟨h5, _⟩
  · have z := q.1 _ hm2 rfl
    exact ⟨Nat.lt_of_lt_of_le z.2 hb, mkZ_m.mpr z⟩
  · exact absurd h5 q.2
theorem plan_cl5 : ∀ x, x < 33 → 5 ≤ x → (∀ q ∈ fkT, kd x = q.1 → 5 ≤ tgt x q.2.1 ∧ tgt x q.2.1 < 33) ∧ kd x ≠ 105 := by decide +kernel
theorem plan_cl33 : ∀ x, x < 61 → 33 ≤ x → (∀ q ∈ fkT, kd x = q.1 → 33 ≤ tgt x q.2.1 ∧ tgt x q.2.1 < 61) ∧ kd x ≠ 105 := by decide +kernel
theorem planZ5 : ∀ j, j < 28 → (PlanP_l 34)[j]? = some (pC Z0 (34 + j)) := by decide +kernel
theorem planZ33 : ∀ j, j < 28 → (PlanP_l 4)[j]? = some (pC Z0 (4 + j)) := by decide +kernel
theorem plb5 : ∀ x, x < 526 → ((5 ≤ x ∧ x < 33) ↔ (34 ≤ PM x ∧ PM x < 62)) := by decide +kernel
theorem plb33 : ∀ x, x < 526 → ((33 ≤ x ∧ x < 61) ↔ (4 ≤ PM x ∧ PM x < 32)) := by decide +kernel
theorem mkZ_w {b a : Nat} {Cn : Nat → PC} {S : St} (hbx : ∀ x, x < 526 → ((b ≤ x ∧ x < b + 28) ↔ (a ≤ PM x ∧ PM x < a + 28))) (h : ∀ j, j < 28 → Cn (a + j) = pC S (a + j)) : WX (mkZ b (a + 28) Cn) S = ((List.range 526).map (swD (a + 28) Cn), true) := by
  unfold WX gmX
  refine congrArg (fun z => (z, true)) (List.map_congr_left (fun x hx => ?_))
  have hx := List.mem_range.mp hx
  show (if (mkZ b (a + 28) Cn).2.1 x = true then _ else _) = _
  by_cases c : b ≤ x ∧ x < b + 28
  · rw [if_pos (mkZ_m.mpr c)]
    have d := (hbx x hx).mp c
    have q := h (PM x - a) (by omega)
    rw [show a + (PM x - a) = PM x by omega] at q
    unfold swD
    rw [if_pos d.2, q]
    unfold pC
    rw [LM_PM, tC_LP]; rfl
  · rw [if_neg (fun z => c (mkZ_m.mp z))]; rfl
/-- .. and after the call -/
theorem mkZ_o {b a : Nat} {Cn : Nat → PC} {S : St} (hbx : ∀ x, x < 526 → ((b ≤ x ∧ x < b + 28) ↔ (a ≤ PM x ∧ PM x < a + 28))) : WX (mkZ b (a + 28) Cn) S = ((List.range 526).map (swD (a + 28) (fun p => if Nat.ble a p = true then pC S p else Cn p)), true) := by
  unfold WX gmX
  refine congrArg (fun z => (z, true)) (List.map_congr_left (fun x hx => ?_))
  have hx := List.mem_range.mp hx
  show (if (mkZ b (a + 28) Cn).2.1 x = true then _ else _) = _
  by_cases c : b ≤ x ∧ x < b + 28
  · rw [if_pos (mkZ_m.mpr c)]
    have d := (hbx x hx).mp c
    unfold swD
    rw [if_pos d.2]
    show _ = tC LM (if Nat.ble a (PM x) = true then pC S (PM x) else Cn (PM x))
    rw [if_pos (Nat.ble_eq.mpr d.1)]
    unfold pC
    rw [LM_PM, tC_LP]; rfl
  · rw [if_neg (fun z => c (mkZ_m.mp z))]
    show swD (a + 28) Cn x = _
    unfold swD
    by_cases e : PM x < a + 28
    · rw [if_pos e, if_pos e]
      show _ = tC LM (if Nat.ble a (PM x) = true then pC S (PM x) else Cn (PM x))
      rw [if_neg (fun z => c ((hbx x hx).mpr ⟨Nat.ble_eq.mp z, e⟩))]
    · rw [if_neg e, if_neg e]
theorem plan_end {E : EV} {C Cn : Nat → PC} {a : Nat} {S1 : St} (hm : eM E = false) (ha : a = 34 ∨ a = 4) (hfn : fn_Plan_begin (LM a) 1 16 Z0 = some S1) (hb : Blk Cn a (PlanP_l a)) (hp : ∀ x, x < a → Cn x = C x) (hC : ∀ x, x < a → (C x).1 < 900) :
    Go E M_Plan_init 27 988 60 [(0, .ref a)] [V 16, V 1, .ref a] (wdC (a + 28) Cn, true) 27 988 (Post a C (plan_l a S1)) := by
  have hz : ∀ j, j < 28 → Cn (a + j) = pC Z0 (a + j) := by
    rcases ha with rfl | rfl
    · exact fun j hj => hb.at (planZ5 j hj)
    · exact fun j hj => hb.at (planZ33 j hj)
  have hk : ∀ p, p < a + 28 → (Cn p).1 < 900 := fun p h => by
    by_cases c : p < a
    · rw [hp p c]; exact hC p c
    · have q := hz (p - a) (by omega)
      rw [show a + (p - a) = p by omega] at q
      rw [q]; exact kd_900' _
  have hk1 : ∀ p, p < a + 28 → ((fun p => if Nat.ble a p = true then pC S1 p else Cn p) p).1 < 900 := fun p h => by
    show (if Nat.ble a p = true then pC S1 p else Cn p).1 < 900
    by_cases c : Nat.ble a p = true
    · rw [if_pos c]; exact kd_900' _
    · rw [if_neg c]; exact hk p h
  have hbx : ∀ x, x < 526 → ((LM a ≤ x ∧ x < LM a + 28) ↔ (a ≤ PM x ∧ PM x < a + 28)) := by
    rcases ha with rfl | rfl
    · exact plb5
    · exact plb33
  have hn : pmN (a + 28) := by
    rcases ha with rfl | rfl
    · exact pm_62
    · exact pm_32
  have hc : HC (mkZ (LM a) (a + 28) Cn) 4 (LM a) := by
    refine ⟨?_, ?_, mkZ_m.mpr ⟨Nat.le_refl _, by omega⟩, ?_⟩
    · rcases ha with rfl | rfl
      · exact mkZ_cl plan_cl5 (Nat.le_of_ble_eq_true rfl)
      · exact mkZ_cl plan_cl33 (Nat.le_of_ble_eq_true rfl)
    · show LM a < 526
      rcases ha with rfl | rfl <;> exact ltK rfl
    · rcases ha with rfl | rfl <;> rfl
  have hg : gA (mE E) (LM a) = gA E a := gA_L hm a
  refine Go.sw (ls' := [(0, .ref (LM a))]) (st' := [V 16, V 1, .ref (LM a)]) (S' := WX (mkZ (LM a) (a + 28) Cn) Z0) (K' := fun rk w => rk = .inl none ∧ w = WX (mkZ (LM a) (a + 28) Cn) S1) ?_ ?_ ?_ ?_ ?_
  · show [(0, Value.ref (gA (mE E) (LM a)))] = [(0, Value.ref (gA E a))]
    rw [hg]
  · show [V 16, V 1, Value.ref (gA (mE E) (LM a))] = [V 16, V 1, Value.ref (gA E a)]
    rw [hg]
  · intro z H h
    rw [mkZ_w hbx hz]
    exact Rep.sw1 hm hn hk h
  · rintro _ _ ⟨rfl, rfl⟩
    refine ⟨fun v hv => by rw [← Sum.inl.inj hv]; rfl, (wdC (a + 28) (fun p => if Nat.ble a p = true then pC S1 p else Cn p), true), ⟨rfl, (fun p => if Nat.ble a p = true then pC S1 p else Cn p), by rw [plan_len], ?_, Blk.of (fun j hj => ?_)⟩, fun z H h => ?_⟩
    · intro x hx
      show (if Nat.ble a x = true then pC S1 x else Cn x) = C x
      rw [if_neg (fun z => by have := Nat.ble_eq.mp z; omega)]
      exact hp x hx
    · show (if Nat.ble a (a + j) = true then pC S1 (a + j) else Cn (a + j)) = _
      rw [if_pos (Nat.ble_eq.mpr (by omega))]
    · rw [mkZ_o hbx] at h
      exact Rep.sw0 hm hn hk1 h
  · refine vg_cV (pc := 60) (As := [V 1, V 16]) (rest := []) (mc' := 0) (ms' := 0) (dK D_Plan_init 30 rfl) K_Plan_34 (fitK rfl) (ltK rfl) hc rfl (leK rfl) (leK rfl) (leK rfl) (tf_Plan_begin hc (inRk rfl) (inRk rfl) hfn) (kcU ?_)
    exact g_return (pc := 63) (dK D_Plan_init 31 rfl) rfl (leK rfl) (leK rfl) (fun _ => rfl) ⟨rfl, rfl⟩
theorem plFact {C : Nat → PC} {a : Nat} {SP : St} (ha : a = 33) (h : C (a + 1) = pC SP (a + 1)) : C (a + 1) = (4, [.ref (a + 2), tV PM (fv SP 5 1), tV PM (fv SP 5 2), tV PM (fv SP 5 3), tV PM (fv SP 5 4), tV PM (fv SP 5 5), tV PM (fv SP 5 6), tV PM (fv SP 5 7)]) := by
  subst ha
  rw [h]; rfl

theorem ct_PlanP {E : EV} {C : Nat → PC} {a : Nat} (hm : eM E = false) (hx : a + 28 < 2000) (h0 : C a = (4, dfl 4)) {S1 : St} (ha : a = 34 ∨ a = 4) (hC : ∀ x, x < a → (C x).1 < 900) (hfn : fn_Plan_begin (LM a) 1 16 Z0 = some S1) : Ev E M_Plan_init [.ref a] (wdC (a + 1) C, true) 27 988 (Post a C (plan_l a S1)) := by
  refine Ev.of pn_Plan rfl (leK rfl) ?_
  show Go E M_Plan_init 27 988 0 [(0, .ref a)] [] (wdC (a + 1) C, true) 0 0 (Post a C (plan_l a S1))
  have h0 : C a = (4, [.null, .int 0, .int 0, .null, .null, .null, .null, .null]) := h0
  refine g_aloadn (pc := 0) (i0 := 0) (j := 0) (dK D_Plan_init 0 rfl) rfl rfl ?_
  refine g_objinit (pc := 1) (dK D_Plan_init 1 rfl) q_63 (leK rfl) (leK rfl) (leK rfl) ?_
  refine g_aloadn (pc := 4) (i0 := 0) (j := 0) (dK D_Plan_init 2 rfl) rfl rfl ?_
  obtain ⟨C1, e1⟩ : ∃ D : Nat → PC, D = updC C (a + 1) (8, dfl 8) := ⟨_, rfl⟩
  refine c_new hm (pc := 5) (ci := 8) (N1 := (a + 2)) (dK D_Plan_init 3 rfl) (ltK rfl) q_64 q_65 q_5 (leK rfl) (leK rfl) (by unfold XB; omega) rfl e1 ?_
  have f1 : C1 a = (4, [.null, .int 0, .int 0, .null, .null, .null, .null, .null]) := by rw [e1, updC_ne (by omega)]; exact h0
  refine g_dup (pc := 8) (dK D_Plan_init 4 rfl) rfl ?_
  refine c_callIN (pc := 9) (As := []) (rest := [.ref (a + 1), .ref a]) (mc' := 21) (ms' := 390) (dK D_Plan_init 5 rfl) K_Plan_11 (fitK rfl) rfl (leK rfl) (leK rfl) (leK rfl) (ct_State hm (C := C1) (a := a + 1) (by omega) ((congrFun e1 _).trans updC_eq)) (postI (fun C2 p2 b2 => ?_))
  have f2 : C2 a = (4, [.null, .int 0, .int 0, .null, .null, .null, .null, .null]) := by rw [p2 a (by omega)]; exact f1
  show Go E M_Plan_init 27 988 12 [(0, .ref a)] [.ref (a + 1), .ref a] (wdC (a + 23) C2, true) _ _ _
  obtain ⟨C3, e3⟩ : ∃ D : Nat → PC, D = updC C2 a (4, [.ref (a + 1), .int 0, .int 0, .null, .null, .null, .null, .null]) := ⟨_, rfl⟩
  refine c_putF (pc := 12) (ci := 4) (f := 0) (dK D_Plan_init 6 rfl) q_290 (ltK rfl) (ltK rfl) rfl rfl rfl (okV_obj _ _) (by omega) (by unfold XB; omega) f2 (ltK rfl) rfl e3 ?_
  have f3 : C3 a = (4, [.ref (a + 1), .int 0, .int 0, .null, .null, .null, .null, .null]) := by rw [e3]; exact updC_eq
  refine g_aloadn (pc := 15) (i0 := 0) (j := 0) (dK D_Plan_init 7 rfl) rfl rfl ?_
  refine vg_bipush' (pc := 16) (dK D_Plan_init 8 rfl) rfl ?_
  obtain ⟨C4, e4⟩ : ∃ D : Nat → PC, D = updC C3 (a + 23) (100, List.replicate 65 (.int 0)) := ⟨_, rfl⟩
  refine c_newarr_int hm (pc := 18) (M := 65) (N1 := (a + 24)) (dK D_Plan_init 9 rfl) rfl (leK rfl) (leK rfl) (by unfold XB; omega) rfl e4 ?_
  have f4 : C4 a = (4, [.ref (a + 1), .int 0, .int 0, .null, .null, .null, .null, .null]) := by rw [e4, updC_ne (by omega)]; exact f3
  obtain ⟨C5, e5⟩ : ∃ D : Nat → PC, D = updC C4 a (4, [.ref (a + 1), .int 0, .int 0, .ref (a + 23), .null, .null, .null, .null]) := ⟨_, rfl⟩
  refine c_putF (pc := 20) (ci := 4) (f := 3) (dK D_Plan_init 10 rfl) q_302 (ltK rfl) (ltK rfl) rfl rfl rfl (okV_arr _ _) (by omega) (by unfold XB; omega) f4 (ltK rfl) rfl e5 ?_
  have f5 : C5 a = (4, [.ref (a + 1), .int 0, .int 0, .ref (a + 23), .null, .null, .null, .null]) := by rw [e5]; exact updC_eq
  refine g_aloadn (pc := 23) (i0 := 0) (j := 0) (dK D_Plan_init 11 rfl) rfl rfl ?_
  refine vg_bipush' (pc := 24) (dK D_Plan_init 12 rfl) rfl ?_
  obtain ⟨C6, e6⟩ : ∃ D : Nat → PC, D = updC C5 (a + 24) (100, List.replicate 65 (.int 0)) := ⟨_, rfl⟩
  refine c_newarr_int hm (pc := 26) (M := 65) (N1 := (a + 25)) (dK D_Plan_init 13 rfl) rfl (leK rfl) (leK rfl) (by unfold XB; omega) rfl e6 ?_
  have f6 : C6 a = (4, [.ref (a + 1), .int 0, .int 0, .ref (a + 23), .null, .null, .null, .null]) := by rw [e6, updC_ne (by omega)]; exact f5
  obtain ⟨C7, e7⟩ : ∃ D : Nat → PC, D = updC C6 a (4, [.ref (a + 1), .int 0, .int 0, .ref (a + 23), .ref (a + 24), .null, .null, .null]) := ⟨_, rfl⟩
  refine c_putF (pc := 28) (ci := 4) (f := 4) (dK D_Plan_init 14 rfl) q_305 (ltK rfl) (ltK rfl) rfl rfl rfl (okV_arr _ _) (by omega) (by unfold XB; omega) f6 (ltK rfl) rfl e7 ?_
  have f7 : C7 a = (4, [.ref (a + 1), .int 0, .int 0, .ref (a + 23), .ref (a + 24), .null, .null, .null]) := by rw [e7]; exact updC_eq
  refine g_aloadn (pc := 31) (i0 := 0) (j := 0) (dK D_Plan_init 15 rfl) rfl rfl ?_
  refine vg_bipush' (pc := 32) (dK D_Plan_init 16 rfl) rfl ?_
  obtain ⟨C8, e8⟩ : ∃ D : Nat → PC, D = updC C7 (a + 25) (100, List.replicate 65 (.int 0)) := ⟨_, rfl⟩
  refine c_newarr_int hm (pc := 34) (M := 65) (N1 := (a + 26)) (dK D_Plan_init 17 rfl) rfl (leK rfl) (leK rfl) (by unfold XB; omega) rfl e8 ?_
  have f8 : C8 a = (4, [.ref (a + 1), .int 0, .int 0, .ref (a + 23), .ref (a + 24), .null, .null, .null]) := by rw [e8, updC_ne (by omega)]; exact f7
  obtain ⟨C9, e9⟩ : ∃ D : Nat → PC, D = updC C8 a (4, [.ref (a + 1), .int 0, .int 0, .ref (a + 23), .ref (a + 24), .ref (a + 25), .null, .null]) := ⟨_, rfl⟩
  refine c_putF (pc := 36) (ci := 4) (f := 5) (dK D_Plan_init 18 rfl) q_307 (ltK rfl) (ltK rfl) rfl rfl rfl (okV_arr _ _) (by omega) (by unfold XB; omega) f8 (ltK rfl) rfl e9 ?_
  have f9 : C9 a = (4, [.ref (a + 1), .int 0, .int 0, .ref (a + 23), .ref (a + 24), .ref (a + 25), .null, .null]) := by rw [e9]; exact updC_eq
  refine g_aloadn (pc := 39) (i0 := 0) (j := 0) (dK D_Plan_init 19 rfl) rfl rfl ?_
  refine vg_bipush' (pc := 40) (dK D_Plan_init 20 rfl) rfl ?_
  obtain ⟨C10, e10⟩ : ∃ D : Nat → PC, D = updC C9 (a + 26) (100, List.replicate 65 (.int 0)) := ⟨_, rfl⟩
  refine c_newarr_int hm (pc := 42) (M := 65) (N1 := (a + 27)) (dK D_Plan_init 21 rfl) rfl (leK rfl) (leK rfl) (by unfold XB; omega) rfl e10 ?_
  have f10 : C10 a = (4, [.ref (a + 1), .int 0, .int 0, .ref (a + 23), .ref (a + 24), .ref (a + 25), .null, .null]) := by rw [e10, updC_ne (by omega)]; exact f9
  obtain ⟨C11, e11⟩ : ∃ D : Nat → PC, D = updC C10 a (4, [.ref (a + 1), .int 0, .int 0, .ref (a + 23), .ref (a + 24), .ref (a + 25), .ref (a + 26), .null]) := ⟨_, rfl⟩
  refine c_putF (pc := 44) (ci := 4) (f := 6) (dK D_Plan_init 22 rfl) q_309 (ltK rfl) (ltK rfl) rfl rfl rfl (okV_arr _ _) (by omega) (by unfold XB; omega) f10 (ltK rfl) rfl e11 ?_
  have f11 : C11 a = (4, [.ref (a + 1), .int 0, .int 0, .ref (a + 23), .ref (a + 24), .ref (a + 25), .ref (a + 26), .null]) := by rw [e11]; exact updC_eq
  refine g_aloadn (pc := 47) (i0 := 0) (j := 0) (dK D_Plan_init 23 rfl) rfl rfl ?_
  refine vg_sipush' (pc := 48) (dK D_Plan_init 24 rfl) rfl ?_
  obtain ⟨C12, e12⟩ : ∃ D : Nat → PC, D = updC C11 (a + 27) (100, List.replicate 330 (.int 0)) := ⟨_, rfl⟩
  refine c_newarr_int hm (pc := 51) (M := 330) (N1 := (a + 28)) (dK D_Plan_init 25 rfl) rfl (leK rfl) (leK rfl) (by unfold XB; omega) rfl e12 ?_
  have f12 : C12 a = (4, [.ref (a + 1), .int 0, .int 0, .ref (a + 23), .ref (a + 24), .ref (a + 25), .ref (a + 26), .null]) := by rw [e12, updC_ne (by omega)]; exact f11
  obtain ⟨C13, e13⟩ : ∃ D : Nat → PC, D = updC C12 a (4, [.ref (a + 1), .int 0, .int 0, .ref (a + 23), .ref (a + 24), .ref (a + 25), .ref (a + 26), .ref (a + 27)]) := ⟨_, rfl⟩
  refine c_putF (pc := 53) (ci := 4) (f := 7) (dK D_Plan_init 26 rfl) q_312 (ltK rfl) (ltK rfl) rfl rfl rfl (okV_arr _ _) (by omega) (by unfold XB; omega) f12 (ltK rfl) rfl e13 ?_
  have f13 : C13 a = (4, [.ref (a + 1), .int 0, .int 0, .ref (a + 23), .ref (a + 24), .ref (a + 25), .ref (a + 26), .ref (a + 27)]) := by rw [e13]; exact updC_eq
  refine g_aloadn (pc := 56) (i0 := 0) (j := 0) (dK D_Plan_init 27 rfl) rfl rfl ?_
  refine vg_iconst' (pc := 57) (dK D_Plan_init 28 rfl) ?_
  refine vg_bipush' (pc := 58) (dK D_Plan_init 29 rfl) rfl ?_
  have hb : Blk C13 a (PlanP_l a) := ⟨f13, Blk.app' (n := 22) rfl (Blk.pres (fun x h1 h2 => ((congrFun e13 _).trans (updC_ne (by have h2 : x < _ + 22 := h2; omega))).trans (((congrFun e12 _).trans (updC_ne (by have h2 : x < _ + 22 := h2; omega))).trans (((congrFun e11 _).trans (updC_ne (by have h2 : x < _ + 22 := h2; omega))).trans (((congrFun e10 _).trans (updC_ne (by have h2 : x < _ + 22 := h2; omega))).trans (((congrFun e9 _).trans (updC_ne (by have h2 : x < _ + 22 := h2; omega))).trans (((congrFun e8 _).trans (updC_ne (by have h2 : x < _ + 22 := h2; omega))).trans (((congrFun e7 _).trans (updC_ne (by have h2 : x < _ + 22 := h2; omega))).trans (((congrFun e6 _).trans (updC_ne (by have h2 : x < _ + 22 := h2; omega))).trans (((congrFun e5 _).trans (updC_ne (by have h2 : x < _ + 22 := h2; omega))).trans (((congrFun e4 _).trans (updC_ne (by have h2 : x < _ + 22 := h2; omega))).trans (((congrFun e3 _).trans (updC_ne (by have h2 : x < _ + 22 := h2; omega))).trans (rfl)))))))))))) b2) (⟨((congrFun e13 _).trans (updC_ne (by omega))).trans (((congrFun e12 _).trans (updC_ne (by omega))).trans (((congrFun e11 _).trans (updC_ne (by omega))).trans (((congrFun e10 _).trans (updC_ne (by omega))).trans (((congrFun e9 _).trans (updC_ne (by omega))).trans (((congrFun e8 _).trans (updC_ne (by omega))).trans (((congrFun e7 _).trans (updC_ne (by omega))).trans (((congrFun e6 _).trans (updC_ne (by omega))).trans (((congrFun e5 _).trans (updC_ne (by omega))).trans ((congrFun e4 _).trans updC_eq))))))))), ⟨((congrFun e13 _).trans (updC_ne (by omega))).trans (((congrFun e12 _).trans (updC_ne (by omega))).trans (((congrFun e11 _).trans (updC_ne (by omega))).trans (((congrFun e10 _).trans (updC_ne (by omega))).trans (((congrFun e9 _).trans (updC_ne (by omega))).trans (((congrFun e8 _).trans (updC_ne (by omega))).trans (((congrFun e7 _).trans (updC_ne (by omega))).trans ((congrFun e6 _).trans updC_eq))))))), ⟨((congrFun e13 _).trans (updC_ne (by omega))).trans (((congrFun e12 _).trans (updC_ne (by omega))).trans (((congrFun e11 _).trans (updC_ne (by omega))).trans (((congrFun e10 _).trans (updC_ne (by omega))).trans (((congrFun e9 _).trans (updC_ne (by omega))).trans ((congrFun e8 _).trans updC_eq))))), ⟨((congrFun e13 _).trans (updC_ne (by omega))).trans (((congrFun e12 _).trans (updC_ne (by omega))).trans (((congrFun e11 _).trans (updC_ne (by omega))).trans ((congrFun e10 _).trans updC_eq))), ⟨((congrFun e13 _).trans (updC_ne (by omega))).trans ((congrFun e12 _).trans updC_eq), trivial⟩⟩⟩⟩⟩)⟩
  have hp : ∀ x, x < a → C13 x = C x := fun x hx => ((congrFun e13 _).trans (updC_ne (by omega))).trans (((congrFun e12 _).trans (updC_ne (by omega))).trans (((congrFun e11 _).trans (updC_ne (by omega))).trans (((congrFun e10 _).trans (updC_ne (by omega))).trans (((congrFun e9 _).trans (updC_ne (by omega))).trans (((congrFun e8 _).trans (updC_ne (by omega))).trans (((congrFun e7 _).trans (updC_ne (by omega))).trans (((congrFun e6 _).trans (updC_ne (by omega))).trans (((congrFun e5 _).trans (updC_ne (by omega))).trans (((congrFun e4 _).trans (updC_ne (by omega))).trans (((congrFun e3 _).trans (updC_ne (by omega))).trans ((p2 _ (by omega)).trans (((congrFun e1 _).trans (updC_ne (by omega))).trans (rfl)))))))))))))
  exact plan_end hm ha hfn hb hp hC
def Reader_l (a : Nat) (SD : St) : List PC := (5, [.ref (a + 1), .ref (a + 3), .ref (a + 31), .int 0, .int 0, .int 0, .int 0, V (-1)]) :: ((Bytes_l 1600 (a + 1)) ++ ((plan_l (a + 3) SD) ++ ((100, List.replicate 6 (.int 0)) :: ([]))))
theorem Reader_len {a : Nat} {SD : St} : (Reader_l a SD).length = 32 := by
  unfold Reader_l
  have e1 : ∀ m b, (Bytes_l m b).length = 2 := fun _ _ => rfl
  simp only [List.length_cons, List.length_append, plan_len, List.length_nil, e1]
theorem kb_Reader {a : Nat} {SD : St} : ∀ c ∈ Reader_l a SD, c.1 < 900 := by
  intro c hc
  unfold Reader_l at hc
  rcases List.mem_cons.mp hc with rfl | hc
  · exact ltK rfl
  rcases List.mem_append.mp hc with hc | hc
  · exact kb_Bytes c hc
  rcases List.mem_append.mp hc with hc | hc
  · exact kb_plan c hc
  · rcases List.mem_cons.mp hc with rfl | hc
    · exact ltK rfl
    · cases hc
theorem ct_Reader {E : EV} {C : Nat → PC} {a : Nat} (hm : eM E = false) (hx : a + 32 < 2000) (h0 : C a = (5, dfl 5)) {SD : St} (ha1 : a = 1) (hC : ∀ x, x < a + 1 → (C x).1 < 900) (h33 : fn_Plan_begin 33 1 16 Z0 = some SD) : Ev E M_Reader_init [.ref a] (wdC (a + 1) C, true) 31 2604 (Post a C (Reader_l a SD)) := by
  refine Ev.of pn_Reader rfl (leK rfl) ?_
  show Go E M_Reader_init 31 2604 0 [(0, .ref a)] [] (wdC (a + 1) C, true) 0 0 (Post a C (Reader_l a SD))
  have h0 : C a = (5, [.null, .null, .null, .int 0, .int 0, .int 0, .int 0, .int 0]) := h0
  refine g_aloadn (pc := 0) (i0 := 0) (j := 0) (dK D_Reader_init 0 rfl) rfl rfl ?_
  refine g_objinit (pc := 1) (dK D_Reader_init 1 rfl) q_41 (leK rfl) (leK rfl) (leK rfl) ?_
  refine g_aloadn (pc := 4) (i0 := 0) (j := 0) (dK D_Reader_init 2 rfl) rfl rfl ?_
  obtain ⟨C1, e1⟩ : ∃ D : Nat → PC, D = updC C (a + 1) (1, dfl 1) := ⟨_, rfl⟩
  refine c_new hm (pc := 5) (ci := 1) (N1 := (a + 2)) (dK D_Reader_init 3 rfl) (ltK rfl) q_42 q_43 q_3 (leK rfl) (leK rfl) (by unfold XB; omega) rfl e1 ?_
  have f1 : C1 a = (5, [.null, .null, .null, .int 0, .int 0, .int 0, .int 0, .int 0]) := by rw [e1, updC_ne (by omega)]; exact h0
  have m1 : ∀ x, x < (a + 2) → (C1 x).1 < 900 := kl_push hC e1 rfl (ltK rfl)
  refine g_dup (pc := 8) (dK D_Reader_init 4 rfl) rfl ?_
  refine vg_sipush' (pc := 9) (dK D_Reader_init 5 rfl) rfl ?_
  refine c_callI (pc := 12) (As := [V (1600)]) (rest := [.ref (a + 1), .ref a]) (mc' := 1) (ms' := 1600) (dK D_Reader_init 6 rfl) K_Reader_11 (fitK rfl) rfl (leK rfl) (leK rfl) (leK rfl) (ct_Bytes hm (C := C1) (a := a + 1) (M := 1600) rfl (by omega) ((congrFun e1 _).trans updC_eq)) (postI (fun C2 p2 b2 => ?_))
  have f2 : C2 a = (5, [.null, .null, .null, .int 0, .int 0, .int 0, .int 0, .int 0]) := by rw [p2 a (by omega)]; exact f1
  have m2 : ∀ x, x < a + 3 → (C2 x).1 < 900 := kl_step (n := 2) m1 p2 b2 rfl kb_Bytes rfl (by omega)
  show Go E M_Reader_init 31 2604 15 [(0, .ref a)] [.ref (a + 1), .ref a] (wdC (a + 3) C2, true) _ _ _
  obtain ⟨C3, e3⟩ : ∃ D : Nat → PC, D = updC C2 a (5, [.ref (a + 1), .null, .null, .int 0, .int 0, .int 0, .int 0, .int 0]) := ⟨_, rfl⟩
  refine c_putF (pc := 15) (ci := 5) (f := 0) (dK D_Reader_init 7 rfl) q_331 (ltK rfl) (ltK rfl) rfl rfl rfl (okV_obj _ _) (by omega) (by unfold XB; omega) f2 (ltK rfl) rfl e3 ?_
  have f3 : C3 a = (5, [.ref (a + 1), .null, .null, .int 0, .int 0, .int 0, .int 0, .int 0]) := by rw [e3]; exact updC_eq
  have m3 : ∀ x, x < (a + 3) → (C3 x).1 < 900 := kl_upd m2 e3 (ltK rfl)
  refine g_aloadn (pc := 18) (i0 := 0) (j := 0) (dK D_Reader_init 8 rfl) rfl rfl ?_
  obtain ⟨C4, e4⟩ : ∃ D : Nat → PC, D = updC C3 (a + 3) (4, dfl 4) := ⟨_, rfl⟩
  refine c_new hm (pc := 19) (ci := 4) (N1 := (a + 4)) (dK D_Reader_init 9 rfl) (ltK rfl) q_58 q_59 q_4 (leK rfl) (leK rfl) (by unfold XB; omega) rfl e4 ?_
  have f4 : C4 a = (5, [.ref (a + 1), .null, .null, .int 0, .int 0, .int 0, .int 0, .int 0]) := by rw [e4, updC_ne (by omega)]; exact f3
  have m4 : ∀ x, x < (a + 4) → (C4 x).1 < 900 := kl_push m3 e4 rfl (ltK rfl)
  refine g_dup (pc := 22) (dK D_Reader_init 10 rfl) rfl ?_
  refine c_callI (pc := 23) (As := []) (rest := [.ref (a + 3), .ref a]) (mc' := 27) (ms' := 988) (dK D_Reader_init 11 rfl) K_Reader_22 (fitK rfl) rfl (leK rfl) (leK rfl) (leK rfl) (ct_PlanP hm (C := C4) (a := a + 3) (by omega) ((congrFun e4 _).trans updC_eq) (by omega) (fun x hx => m4 x (by omega)) (by subst ha1; exact h33)) (postI (fun C5 p5 b5 => ?_))
  have f5 : C5 a = (5, [.ref (a + 1), .null, .null, .int 0, .int 0, .int 0, .int 0, .int 0]) := by rw [p5 a (by omega)]; exact f4
  have m5 : ∀ x, x < a + 31 → (C5 x).1 < 900 := kl_step (n := 28) m4 p5 b5 rfl kb_plan plan_len (by omega)
  rw [plan_len]
  show Go E M_Reader_init 31 2604 26 [(0, .ref a)] [.ref (a + 3), .ref a] (wdC (a + 31) C5, true) _ _ _
  obtain ⟨C6, e6⟩ : ∃ D : Nat → PC, D = updC C5 a (5, [.ref (a + 1), .ref (a + 3), .null, .int 0, .int 0, .int 0, .int 0, .int 0]) := ⟨_, rfl⟩
  refine c_putF (pc := 26) (ci := 5) (f := 1) (dK D_Reader_init 12 rfl) q_333 (ltK rfl) (ltK rfl) rfl rfl rfl (okV_obj _ _) (by omega) (by unfold XB; omega) f5 (ltK rfl) rfl e6 ?_
  have f6 : C6 a = (5, [.ref (a + 1), .ref (a + 3), .null, .int 0, .int 0, .int 0, .int 0, .int 0]) := by rw [e6]; exact updC_eq
  have m6 : ∀ x, x < (a + 31) → (C6 x).1 < 900 := kl_upd m5 e6 (ltK rfl)
  refine g_aloadn (pc := 29) (i0 := 0) (j := 0) (dK D_Reader_init 13 rfl) rfl rfl ?_
  refine vg_bipush' (pc := 30) (dK D_Reader_init 14 rfl) rfl ?_
  obtain ⟨C7, e7⟩ : ∃ D : Nat → PC, D = updC C6 (a + 31) (100, List.replicate 6 (.int 0)) := ⟨_, rfl⟩
  refine c_newarr_int hm (pc := 32) (M := 6) (N1 := (a + 32)) (dK D_Reader_init 15 rfl) rfl (leK rfl) (leK rfl) (by unfold XB; omega) rfl e7 ?_
  have f7 : C7 a = (5, [.ref (a + 1), .ref (a + 3), .null, .int 0, .int 0, .int 0, .int 0, .int 0]) := by rw [e7, updC_ne (by omega)]; exact f6
  have m7 : ∀ x, x < (a + 32) → (C7 x).1 < 900 := kl_push m6 e7 rfl (ltK rfl)
  obtain ⟨C8, e8⟩ : ∃ D : Nat → PC, D = updC C7 a (5, [.ref (a + 1), .ref (a + 3), .ref (a + 31), .int 0, .int 0, .int 0, .int 0, .int 0]) := ⟨_, rfl⟩
  refine c_putF (pc := 34) (ci := 5) (f := 2) (dK D_Reader_init 16 rfl) q_335 (ltK rfl) (ltK rfl) rfl rfl rfl (okV_arr _ _) (by omega) (by unfold XB; omega) f7 (ltK rfl) rfl e8 ?_
  have f8 : C8 a = (5, [.ref (a + 1), .ref (a + 3), .ref (a + 31), .int 0, .int 0, .int 0, .int 0, .int 0]) := by rw [e8]; exact updC_eq
  have m8 : ∀ x, x < (a + 32) → (C8 x).1 < 900 := kl_upd m7 e8 (ltK rfl)
  refine g_aloadn (pc := 37) (i0 := 0) (j := 0) (dK D_Reader_init 17 rfl) rfl rfl ?_
  refine vg_iconst' (pc := 38) (dK D_Reader_init 18 rfl) ?_
  obtain ⟨C9, e9⟩ : ∃ D : Nat → PC, D = updC C8 a (5, [.ref (a + 1), .ref (a + 3), .ref (a + 31), .int 0, .int 0, .int 0, .int 0, V (-1)]) := ⟨_, rfl⟩
  refine c_put (pc := 39) (ci := 5) (f := 7) (dK D_Reader_init 19 rfl) q_341 (ltK rfl) (ltK rfl) rfl (okV_int _) (by omega) (by unfold XB; omega) f8 (ltK rfl) rfl e9 ?_
  have f9 : C9 a = (5, [.ref (a + 1), .ref (a + 3), .ref (a + 31), .int 0, .int 0, .int 0, .int 0, V (-1)]) := by rw [e9]; exact updC_eq
  have m9 : ∀ x, x < (a + 32) → (C9 x).1 < 900 := kl_upd m8 e9 (ltK rfl)
  exact g_return (pc := 42) (dK D_Reader_init 20 rfl) rfl (leK rfl) (leK rfl) (fun _ => rfl) ⟨rfl, C9, congrArg (fun z => (wdC z C9, true)) (by rw [Reader_len]), fun x hx => ((congrFun e9 _).trans (updC_ne (by omega))).trans (((congrFun e8 _).trans (updC_ne (by omega))).trans (((congrFun e7 _).trans (updC_ne (by omega))).trans (((congrFun e6 _).trans (updC_ne (by omega))).trans ((p5 _ (by omega)).trans (((congrFun e4 _).trans (updC_ne (by omega))).trans (((congrFun e3 _).trans (updC_ne (by omega))).trans ((p2 _ (by omega)).trans (((congrFun e1 _).trans (updC_ne (by omega))).trans (rfl))))))))), ⟨f9, Blk.app' (n := 2) rfl (Blk.pres (fun x h1 h2 => ((congrFun e9 _).trans (updC_ne (by have h2 : x < _ + 2 := h2; omega))).trans (((congrFun e8 _).trans (updC_ne (by have h2 : x < _ + 2 := h2; omega))).trans (((congrFun e7 _).trans (updC_ne (by have h2 : x < _ + 2 := h2; omega))).trans (((congrFun e6 _).trans (updC_ne (by have h2 : x < _ + 2 := h2; omega))).trans ((p5 _ (by have h2 : x < _ + 2 := h2; omega)).trans (((congrFun e4 _).trans (updC_ne (by have h2 : x < _ + 2 := h2; omega))).trans (((congrFun e3 _).trans (updC_ne (by have h2 : x < _ + 2 := h2; omega))).trans (rfl)))))))) b2) (Blk.app' (n := 28) plan_len (Blk.pres (fun x h1 h2 => ((congrFun e9 _).trans (updC_ne (by rw [plan_len] at h2; omega))).trans (((congrFun e8 _).trans (updC_ne (by rw [plan_len] at h2; omega))).trans (((congrFun e7 _).trans (updC_ne (by rw [plan_len] at h2; omega))).trans (((congrFun e6 _).trans (updC_ne (by rw [plan_len] at h2; omega))).trans (rfl))))) b5) (⟨((congrFun e9 _).trans (updC_ne (by omega))).trans (((congrFun e8 _).trans (updC_ne (by omega))).trans ((congrFun e7 _).trans updC_eq)), trivial⟩))⟩⟩
def Searches_l (a : Nat) (SP : St) : List PC := (6, [.ref (a + 1), .ref (a + 2), .ref (a + 29), .ref (a + 30), .ref (a + 31), .ref (a + 32), .ref (a + 33), .ref (a + 34), .ref (a + 35), .ref (a + 36)]) :: ((plan_l (a + 1) SP) ++ ((100, List.replicate 40 (.int 0)) :: ((100, List.replicate 4 (.int 0)) :: ((100, List.replicate 65 (.int 0)) :: ((100, List.replicate 40 (.int 0)) :: ((100, List.replicate 65 (.int 0)) :: ((100, List.replicate 40 (.int 0)) :: ((100, List.replicate 8 (.int 0)) :: ((100, List.replicate 65 (.int 0)) :: ([]))))))))))
theorem Searches_len {a : Nat} {SP : St} : (Searches_l a SP).length = 37 := by
  unfold Searches_l
  simp only [List.length_cons, List.length_append, plan_len, List.length_nil]
theorem ct_Searches {E : EV} {C : Nat → PC} {a : Nat} (hm : eM E = false) (hx : a + 37 < 2000) (h0 : C a = (6, dfl 6)) {SP : St} (ha1 : a = 33) (hC : ∀ x, x < a + 1 → (C x).1 < 900) (h5 : fn_Plan_begin 5 1 16 Z0 = some SP) : Ev E M_Searches_init [.ref a] (wdC (a + 1) C, true) 36 1323 (Post a C (Searches_l a SP)) := by
  refine Ev.of pn_Searches rfl (leK rfl) ?_
  show Go E M_Searches_init 36 1323 0 [(0, .ref a)] [] (wdC (a + 1) C, true) 0 0 (Post a C (Searches_l a SP))
  have h0 : C a = (6, [.null, .null, .null, .null, .null, .null, .null, .null, .null, .null]) := h0
  refine g_aloadn (pc := 0) (i0 := 0) (j := 0) (dK D_Searches_init 0 rfl) rfl rfl ?_
  refine g_objinit (pc := 1) (dK D_Searches_init 1 rfl) q_365 (leK rfl) (leK rfl) (leK rfl) ?_
  refine g_aloadn (pc := 4) (i0 := 0) (j := 0) (dK D_Searches_init 2 rfl) rfl rfl ?_
  obtain ⟨C1, e1⟩ : ∃ D : Nat → PC, D = updC C (a + 1) (4, dfl 4) := ⟨_, rfl⟩
  refine c_new hm (pc := 5) (ci := 4) (N1 := (a + 2)) (dK D_Searches_init 3 rfl) (ltK rfl) q_366 q_59 q_4 (leK rfl) (leK rfl) (by unfold XB; omega) rfl e1 ?_
  have f1 : C1 a = (6, [.null, .null, .null, .null, .null, .null, .null, .null, .null, .null]) := by rw [e1, updC_ne (by omega)]; exact h0
  have m1 : ∀ x, x < (a + 2) → (C1 x).1 < 900 := kl_push hC e1 rfl (ltK rfl)
  refine g_dup (pc := 8) (dK D_Searches_init 4 rfl) rfl ?_
  refine c_callI (pc := 9) (As := []) (rest := [.ref (a + 1), .ref a]) (mc' := 27) (ms' := 988) (dK D_Searches_init 5 rfl) K_Searches_11 (fitK rfl) rfl (leK rfl) (leK rfl) (leK rfl) (ct_PlanP hm (C := C1) (a := a + 1) (by omega) ((congrFun e1 _).trans updC_eq) (by omega) (fun x hx => m1 x (by omega)) (by subst ha1; exact h5)) (postI (fun C2 p2 b2 => ?_))
  have f2 : C2 a = (6, [.null, .null, .null, .null, .null, .null, .null, .null, .null, .null]) := by rw [p2 a (by omega)]; exact f1
  have m2 : ∀ x, x < a + 29 → (C2 x).1 < 900 := kl_step (n := 28) m1 p2 b2 rfl kb_plan plan_len (by omega)
  rw [plan_len]
  show Go E M_Searches_init 36 1323 12 [(0, .ref a)] [.ref (a + 1), .ref a] (wdC (a + 29) C2, true) _ _ _
  obtain ⟨C3, e3⟩ : ∃ D : Nat → PC, D = updC C2 a (6, [.ref (a + 1), .null, .null, .null, .null, .null, .null, .null, .null, .null]) := ⟨_, rfl⟩
  refine c_putF (pc := 12) (ci := 6) (f := 0) (dK D_Searches_init 6 rfl) q_368 (ltK rfl) (ltK rfl) rfl rfl rfl (okV_obj _ _) (by omega) (by unfold XB; omega) f2 (ltK rfl) rfl e3 ?_
  have f3 : C3 a = (6, [.ref (a + 1), .null, .null, .null, .null, .null, .null, .null, .null, .null]) := by rw [e3]; exact updC_eq
  have m3 : ∀ x, x < (a + 29) → (C3 x).1 < 900 := kl_upd m2 e3 (ltK rfl)
  refine g_aloadn (pc := 15) (i0 := 0) (j := 0) (dK D_Searches_init 7 rfl) rfl rfl ?_
  refine g_aloadn (pc := 16) (i0 := 0) (j := 0) (dK D_Searches_init 8 rfl) rfl rfl ?_
  refine c_get (pc := 17) (ci := 6) (f := 0) (dK D_Searches_init 9 rfl) q_368 (ltK rfl) (ltK rfl) (by omega) (by unfold XB; omega) f3 rfl ?_
  have g20 : C3 (a + 1) = (4, [.ref (a + 2), tV PM (fv SP 5 1), tV PM (fv SP 5 2), tV PM (fv SP 5 3), tV PM (fv SP 5 4), tV PM (fv SP 5 5), tV PM (fv SP 5 6), tV PM (fv SP 5 7)]) := ((congrFun e3 _).trans (updC_ne (by omega))).trans (plFact ha1 (Blk.at (j := 0) b2 rfl))
  refine c_get (pc := 20) (ci := 4) (f := 0) (dK D_Searches_init 10 rfl) q_291 (ltK rfl) (ltK rfl) (by omega) (by unfold XB; omega) g20 rfl ?_
  obtain ⟨C4, e4⟩ : ∃ D : Nat → PC, D = updC C3 a (6, [.ref (a + 1), .ref (a + 2), .null, .null, .null, .null, .null, .null, .null, .null]) := ⟨_, rfl⟩
  refine c_putF (pc := 23) (ci := 6) (f := 1) (dK D_Searches_init 11 rfl) q_370 (ltK rfl) (ltK rfl) rfl rfl rfl (okV_obj _ _) (by omega) (by unfold XB; omega) f3 (ltK rfl) rfl e4 ?_
  have f4 : C4 a = (6, [.ref (a + 1), .ref (a + 2), .null, .null, .null, .null, .null, .null, .null, .null]) := by rw [e4]; exact updC_eq
  have m4 : ∀ x, x < (a + 29) → (C4 x).1 < 900 := kl_upd m3 e4 (ltK rfl)
  refine g_aloadn (pc := 26) (i0 := 0) (j := 0) (dK D_Searches_init 12 rfl) rfl rfl ?_
  refine vg_bipush' (pc := 27) (dK D_Searches_init 13 rfl) rfl ?_
  obtain ⟨C5, e5⟩ : ∃ D : Nat → PC, D = updC C4 (a + 29) (100, List.replicate 40 (.int 0)) := ⟨_, rfl⟩
  refine c_newarr_int hm (pc := 29) (M := 40) (N1 := (a + 30)) (dK D_Searches_init 14 rfl) rfl (leK rfl) (leK rfl) (by unfold XB; omega) rfl e5 ?_
  have f5 : C5 a = (6, [.ref (a + 1), .ref (a + 2), .null, .null, .null, .null, .null, .null, .null, .null]) := by rw [e5, updC_ne (by omega)]; exact f4
  have m5 : ∀ x, x < (a + 30) → (C5 x).1 < 900 := kl_push m4 e5 rfl (ltK rfl)
  obtain ⟨C6, e6⟩ : ∃ D : Nat → PC, D = updC C5 a (6, [.ref (a + 1), .ref (a + 2), .ref (a + 29), .null, .null, .null, .null, .null, .null, .null]) := ⟨_, rfl⟩
  refine c_putF (pc := 31) (ci := 6) (f := 2) (dK D_Searches_init 15 rfl) q_371 (ltK rfl) (ltK rfl) rfl rfl rfl (okV_arr _ _) (by omega) (by unfold XB; omega) f5 (ltK rfl) rfl e6 ?_
  have f6 : C6 a = (6, [.ref (a + 1), .ref (a + 2), .ref (a + 29), .null, .null, .null, .null, .null, .null, .null]) := by rw [e6]; exact updC_eq
  have m6 : ∀ x, x < (a + 30) → (C6 x).1 < 900 := kl_upd m5 e6 (ltK rfl)
  refine g_aloadn (pc := 34) (i0 := 0) (j := 0) (dK D_Searches_init 16 rfl) rfl rfl ?_
  refine vg_iconst' (pc := 35) (dK D_Searches_init 17 rfl) ?_
  obtain ⟨C7, e7⟩ : ∃ D : Nat → PC, D = updC C6 (a + 30) (100, List.replicate 4 (.int 0)) := ⟨_, rfl⟩
  refine c_newarr_int hm (pc := 36) (M := 4) (N1 := (a + 31)) (dK D_Searches_init 18 rfl) rfl (leK rfl) (leK rfl) (by unfold XB; omega) rfl e7 ?_
  have f7 : C7 a = (6, [.ref (a + 1), .ref (a + 2), .ref (a + 29), .null, .null, .null, .null, .null, .null, .null]) := by rw [e7, updC_ne (by omega)]; exact f6
  have m7 : ∀ x, x < (a + 31) → (C7 x).1 < 900 := kl_push m6 e7 rfl (ltK rfl)
  obtain ⟨C8, e8⟩ : ∃ D : Nat → PC, D = updC C7 a (6, [.ref (a + 1), .ref (a + 2), .ref (a + 29), .ref (a + 30), .null, .null, .null, .null, .null, .null]) := ⟨_, rfl⟩
  refine c_putF (pc := 38) (ci := 6) (f := 3) (dK D_Searches_init 19 rfl) q_372 (ltK rfl) (ltK rfl) rfl rfl rfl (okV_arr _ _) (by omega) (by unfold XB; omega) f7 (ltK rfl) rfl e8 ?_
  have f8 : C8 a = (6, [.ref (a + 1), .ref (a + 2), .ref (a + 29), .ref (a + 30), .null, .null, .null, .null, .null, .null]) := by rw [e8]; exact updC_eq
  have m8 : ∀ x, x < (a + 31) → (C8 x).1 < 900 := kl_upd m7 e8 (ltK rfl)
  refine g_aloadn (pc := 41) (i0 := 0) (j := 0) (dK D_Searches_init 20 rfl) rfl rfl ?_
  refine vg_bipush' (pc := 42) (dK D_Searches_init 21 rfl) rfl ?_
  obtain ⟨C9, e9⟩ : ∃ D : Nat → PC, D = updC C8 (a + 31) (100, List.replicate 65 (.int 0)) := ⟨_, rfl⟩
  refine c_newarr_int hm (pc := 44) (M := 65) (N1 := (a + 32)) (dK D_Searches_init 22 rfl) rfl (leK rfl) (leK rfl) (by unfold XB; omega) rfl e9 ?_
  have f9 : C9 a = (6, [.ref (a + 1), .ref (a + 2), .ref (a + 29), .ref (a + 30), .null, .null, .null, .null, .null, .null]) := by rw [e9, updC_ne (by omega)]; exact f8
  have m9 : ∀ x, x < (a + 32) → (C9 x).1 < 900 := kl_push m8 e9 rfl (ltK rfl)
  obtain ⟨C10, e10⟩ : ∃ D : Nat → PC, D = updC C9 a (6, [.ref (a + 1), .ref (a + 2), .ref (a + 29), .ref (a + 30), .ref (a + 31), .null, .null, .null, .null, .null]) := ⟨_, rfl⟩
  refine c_putF (pc := 46) (ci := 6) (f := 4) (dK D_Searches_init 23 rfl) q_373 (ltK rfl) (ltK rfl) rfl rfl rfl (okV_arr _ _) (by omega) (by unfold XB; omega) f9 (ltK rfl) rfl e10 ?_
  have f10 : C10 a = (6, [.ref (a + 1), .ref (a + 2), .ref (a + 29), .ref (a + 30), .ref (a + 31), .null, .null, .null, .null, .null]) := by rw [e10]; exact updC_eq
  have m10 : ∀ x, x < (a + 32) → (C10 x).1 < 900 := kl_upd m9 e10 (ltK rfl)
  refine g_aloadn (pc := 49) (i0 := 0) (j := 0) (dK D_Searches_init 24 rfl) rfl rfl ?_
  refine vg_bipush' (pc := 50) (dK D_Searches_init 25 rfl) rfl ?_
  obtain ⟨C11, e11⟩ : ∃ D : Nat → PC, D = updC C10 (a + 32) (100, List.replicate 40 (.int 0)) := ⟨_, rfl⟩
  refine c_newarr_int hm (pc := 52) (M := 40) (N1 := (a + 33)) (dK D_Searches_init 26 rfl) rfl (leK rfl) (leK rfl) (by unfold XB; omega) rfl e11 ?_
  have f11 : C11 a = (6, [.ref (a + 1), .ref (a + 2), .ref (a + 29), .ref (a + 30), .ref (a + 31), .null, .null, .null, .null, .null]) := by rw [e11, updC_ne (by omega)]; exact f10
  have m11 : ∀ x, x < (a + 33) → (C11 x).1 < 900 := kl_push m10 e11 rfl (ltK rfl)
  obtain ⟨C12, e12⟩ : ∃ D : Nat → PC, D = updC C11 a (6, [.ref (a + 1), .ref (a + 2), .ref (a + 29), .ref (a + 30), .ref (a + 31), .ref (a + 32), .null, .null, .null, .null]) := ⟨_, rfl⟩
  refine c_putF (pc := 54) (ci := 6) (f := 5) (dK D_Searches_init 27 rfl) q_374 (ltK rfl) (ltK rfl) rfl rfl rfl (okV_arr _ _) (by omega) (by unfold XB; omega) f11 (ltK rfl) rfl e12 ?_
  have f12 : C12 a = (6, [.ref (a + 1), .ref (a + 2), .ref (a + 29), .ref (a + 30), .ref (a + 31), .ref (a + 32), .null, .null, .null, .null]) := by rw [e12]; exact updC_eq
  have m12 : ∀ x, x < (a + 33) → (C12 x).1 < 900 := kl_upd m11 e12 (ltK rfl)
  refine g_aloadn (pc := 57) (i0 := 0) (j := 0) (dK D_Searches_init 28 rfl) rfl rfl ?_
  refine vg_bipush' (pc := 58) (dK D_Searches_init 29 rfl) rfl ?_
  obtain ⟨C13, e13⟩ : ∃ D : Nat → PC, D = updC C12 (a + 33) (100, List.replicate 65 (.int 0)) := ⟨_, rfl⟩
  refine c_newarr_int hm (pc := 60) (M := 65) (N1 := (a + 34)) (dK D_Searches_init 30 rfl) rfl (leK rfl) (leK rfl) (by unfold XB; omega) rfl e13 ?_
  have f13 : C13 a = (6, [.ref (a + 1), .ref (a + 2), .ref (a + 29), .ref (a + 30), .ref (a + 31), .ref (a + 32), .null, .null, .null, .null]) := by rw [e13, updC_ne (by omega)]; exact f12
  have m13 : ∀ x, x < (a + 34) → (C13 x).1 < 900 := kl_push m12 e13 rfl (ltK rfl)
  obtain ⟨C14, e14⟩ : ∃ D : Nat → PC, D = updC C13 a (6, [.ref (a + 1), .ref (a + 2), .ref (a + 29), .ref (a + 30), .ref (a + 31), .ref (a + 32), .ref (a + 33), .null, .null, .null]) := ⟨_, rfl⟩
  refine c_putF (pc := 62) (ci := 6) (f := 6) (dK D_Searches_init 31 rfl) q_375 (ltK rfl) (ltK rfl) rfl rfl rfl (okV_arr _ _) (by omega) (by unfold XB; omega) f13 (ltK rfl) rfl e14 ?_
  have f14 : C14 a = (6, [.ref (a + 1), .ref (a + 2), .ref (a + 29), .ref (a + 30), .ref (a + 31), .ref (a + 32), .ref (a + 33), .null, .null, .null]) := by rw [e14]; exact updC_eq
  have m14 : ∀ x, x < (a + 34) → (C14 x).1 < 900 := kl_upd m13 e14 (ltK rfl)
  refine g_aloadn (pc := 65) (i0 := 0) (j := 0) (dK D_Searches_init 32 rfl) rfl rfl ?_
  refine vg_bipush' (pc := 66) (dK D_Searches_init 33 rfl) rfl ?_
  obtain ⟨C15, e15⟩ : ∃ D : Nat → PC, D = updC C14 (a + 34) (100, List.replicate 40 (.int 0)) := ⟨_, rfl⟩
  refine c_newarr_int hm (pc := 68) (M := 40) (N1 := (a + 35)) (dK D_Searches_init 34 rfl) rfl (leK rfl) (leK rfl) (by unfold XB; omega) rfl e15 ?_
  have f15 : C15 a = (6, [.ref (a + 1), .ref (a + 2), .ref (a + 29), .ref (a + 30), .ref (a + 31), .ref (a + 32), .ref (a + 33), .null, .null, .null]) := by rw [e15, updC_ne (by omega)]; exact f14
  have m15 : ∀ x, x < (a + 35) → (C15 x).1 < 900 := kl_push m14 e15 rfl (ltK rfl)
  obtain ⟨C16, e16⟩ : ∃ D : Nat → PC, D = updC C15 a (6, [.ref (a + 1), .ref (a + 2), .ref (a + 29), .ref (a + 30), .ref (a + 31), .ref (a + 32), .ref (a + 33), .ref (a + 34), .null, .null]) := ⟨_, rfl⟩
  refine c_putF (pc := 70) (ci := 6) (f := 7) (dK D_Searches_init 35 rfl) q_376 (ltK rfl) (ltK rfl) rfl rfl rfl (okV_arr _ _) (by omega) (by unfold XB; omega) f15 (ltK rfl) rfl e16 ?_
  have f16 : C16 a = (6, [.ref (a + 1), .ref (a + 2), .ref (a + 29), .ref (a + 30), .ref (a + 31), .ref (a + 32), .ref (a + 33), .ref (a + 34), .null, .null]) := by rw [e16]; exact updC_eq
  have m16 : ∀ x, x < (a + 35) → (C16 x).1 < 900 := kl_upd m15 e16 (ltK rfl)
  refine g_aloadn (pc := 73) (i0 := 0) (j := 0) (dK D_Searches_init 36 rfl) rfl rfl ?_
  refine vg_bipush' (pc := 74) (dK D_Searches_init 37 rfl) rfl ?_
  obtain ⟨C17, e17⟩ : ∃ D : Nat → PC, D = updC C16 (a + 35) (100, List.replicate 8 (.int 0)) := ⟨_, rfl⟩
  refine c_newarr_int hm (pc := 76) (M := 8) (N1 := (a + 36)) (dK D_Searches_init 38 rfl) rfl (leK rfl) (leK rfl) (by unfold XB; omega) rfl e17 ?_
  have f17 : C17 a = (6, [.ref (a + 1), .ref (a + 2), .ref (a + 29), .ref (a + 30), .ref (a + 31), .ref (a + 32), .ref (a + 33), .ref (a + 34), .null, .null]) := by rw [e17, updC_ne (by omega)]; exact f16
  have m17 : ∀ x, x < (a + 36) → (C17 x).1 < 900 := kl_push m16 e17 rfl (ltK rfl)
  obtain ⟨C18, e18⟩ : ∃ D : Nat → PC, D = updC C17 a (6, [.ref (a + 1), .ref (a + 2), .ref (a + 29), .ref (a + 30), .ref (a + 31), .ref (a + 32), .ref (a + 33), .ref (a + 34), .ref (a + 35), .null]) := ⟨_, rfl⟩
  refine c_putF (pc := 78) (ci := 6) (f := 8) (dK D_Searches_init 39 rfl) q_377 (ltK rfl) (ltK rfl) rfl rfl rfl (okV_arr _ _) (by omega) (by unfold XB; omega) f17 (ltK rfl) rfl e18 ?_
  have f18 : C18 a = (6, [.ref (a + 1), .ref (a + 2), .ref (a + 29), .ref (a + 30), .ref (a + 31), .ref (a + 32), .ref (a + 33), .ref (a + 34), .ref (a + 35), .null]) := by rw [e18]; exact updC_eq
  have m18 : ∀ x, x < (a + 36) → (C18 x).1 < 900 := kl_upd m17 e18 (ltK rfl)
  refine g_aloadn (pc := 81) (i0 := 0) (j := 0) (dK D_Searches_init 40 rfl) rfl rfl ?_
  refine vg_bipush' (pc := 82) (dK D_Searches_init 41 rfl) rfl ?_
  obtain ⟨C19, e19⟩ : ∃ D : Nat → PC, D = updC C18 (a + 36) (100, List.replicate 65 (.int 0)) := ⟨_, rfl⟩
  refine c_newarr_int hm (pc := 84) (M := 65) (N1 := (a + 37)) (dK D_Searches_init 42 rfl) rfl (leK rfl) (leK rfl) (by unfold XB; omega) rfl e19 ?_
  have f19 : C19 a = (6, [.ref (a + 1), .ref (a + 2), .ref (a + 29), .ref (a + 30), .ref (a + 31), .ref (a + 32), .ref (a + 33), .ref (a + 34), .ref (a + 35), .null]) := by rw [e19, updC_ne (by omega)]; exact f18
  have m19 : ∀ x, x < (a + 37) → (C19 x).1 < 900 := kl_push m18 e19 rfl (ltK rfl)
  obtain ⟨C20, e20⟩ : ∃ D : Nat → PC, D = updC C19 a (6, [.ref (a + 1), .ref (a + 2), .ref (a + 29), .ref (a + 30), .ref (a + 31), .ref (a + 32), .ref (a + 33), .ref (a + 34), .ref (a + 35), .ref (a + 36)]) := ⟨_, rfl⟩
  refine c_putF (pc := 86) (ci := 6) (f := 9) (dK D_Searches_init 43 rfl) q_378 (ltK rfl) (ltK rfl) rfl rfl rfl (okV_arr _ _) (by omega) (by unfold XB; omega) f19 (ltK rfl) rfl e20 ?_
  have f20 : C20 a = (6, [.ref (a + 1), .ref (a + 2), .ref (a + 29), .ref (a + 30), .ref (a + 31), .ref (a + 32), .ref (a + 33), .ref (a + 34), .ref (a + 35), .ref (a + 36)]) := by rw [e20]; exact updC_eq
  have m20 : ∀ x, x < (a + 37) → (C20 x).1 < 900 := kl_upd m19 e20 (ltK rfl)
  exact g_return (pc := 89) (dK D_Searches_init 44 rfl) rfl (leK rfl) (leK rfl) (fun _ => rfl) ⟨rfl, C20, congrArg (fun z => (wdC z C20, true)) (by rw [Searches_len]), fun x hx => ((congrFun e20 _).trans (updC_ne (by omega))).trans (((congrFun e19 _).trans (updC_ne (by omega))).trans (((congrFun e18 _).trans (updC_ne (by omega))).trans (((congrFun e17 _).trans (updC_ne (by omega))).trans (((congrFun e16 _).trans (updC_ne (by omega))).trans (((congrFun e15 _).trans (updC_ne (by omega))).trans (((congrFun e14 _).trans (updC_ne (by omega))).trans (((congrFun e13 _).trans (updC_ne (by omega))).trans (((congrFun e12 _).trans (updC_ne (by omega))).trans (((congrFun e11 _).trans (updC_ne (by omega))).trans (((congrFun e10 _).trans (updC_ne (by omega))).trans (((congrFun e9 _).trans (updC_ne (by omega))).trans (((congrFun e8 _).trans (updC_ne (by omega))).trans (((congrFun e7 _).trans (updC_ne (by omega))).trans (((congrFun e6 _).trans (updC_ne (by omega))).trans (((congrFun e5 _).trans (updC_ne (by omega))).trans (((congrFun e4 _).trans (updC_ne (by omega))).trans (((congrFun e3 _).trans (updC_ne (by omega))).trans ((p2 _ (by omega)).trans (((congrFun e1 _).trans (updC_ne (by omega))).trans (rfl)))))))))))))))))))), ⟨f20, Blk.app' (n := 28) plan_len (Blk.pres (fun x h1 h2 => ((congrFun e20 _).trans (updC_ne (by rw [plan_len] at h2; omega))).trans (((congrFun e19 _).trans (updC_ne (by rw [plan_len] at h2; omega))).trans (((congrFun e18 _).trans (updC_ne (by rw [plan_len] at h2; omega))).trans (((congrFun e17 _).trans (updC_ne (by rw [plan_len] at h2; omega))).trans (((congrFun e16 _).trans (updC_ne (by rw [plan_len] at h2; omega))).trans (((congrFun e15 _).trans (updC_ne (by rw [plan_len] at h2; omega))).trans (((congrFun e14 _).trans (updC_ne (by rw [plan_len] at h2; omega))).trans (((congrFun e13 _).trans (updC_ne (by rw [plan_len] at h2; omega))).trans (((congrFun e12 _).trans (updC_ne (by rw [plan_len] at h2; omega))).trans (((congrFun e11 _).trans (updC_ne (by rw [plan_len] at h2; omega))).trans (((congrFun e10 _).trans (updC_ne (by rw [plan_len] at h2; omega))).trans (((congrFun e9 _).trans (updC_ne (by rw [plan_len] at h2; omega))).trans (((congrFun e8 _).trans (updC_ne (by rw [plan_len] at h2; omega))).trans (((congrFun e7 _).trans (updC_ne (by rw [plan_len] at h2; omega))).trans (((congrFun e6 _).trans (updC_ne (by rw [plan_len] at h2; omega))).trans (((congrFun e5 _).trans (updC_ne (by rw [plan_len] at h2; omega))).trans (((congrFun e4 _).trans (updC_ne (by rw [plan_len] at h2; omega))).trans (((congrFun e3 _).trans (updC_ne (by rw [plan_len] at h2; omega))).trans (rfl))))))))))))))))))) b2) (⟨((congrFun e20 _).trans (updC_ne (by omega))).trans (((congrFun e19 _).trans (updC_ne (by omega))).trans (((congrFun e18 _).trans (updC_ne (by omega))).trans (((congrFun e17 _).trans (updC_ne (by omega))).trans (((congrFun e16 _).trans (updC_ne (by omega))).trans (((congrFun e15 _).trans (updC_ne (by omega))).trans (((congrFun e14 _).trans (updC_ne (by omega))).trans (((congrFun e13 _).trans (updC_ne (by omega))).trans (((congrFun e12 _).trans (updC_ne (by omega))).trans (((congrFun e11 _).trans (updC_ne (by omega))).trans (((congrFun e10 _).trans (updC_ne (by omega))).trans (((congrFun e9 _).trans (updC_ne (by omega))).trans (((congrFun e8 _).trans (updC_ne (by omega))).trans (((congrFun e7 _).trans (updC_ne (by omega))).trans (((congrFun e6 _).trans (updC_ne (by omega))).trans ((congrFun e5 _).trans updC_eq))))))))))))))), ⟨((congrFun e20 _).trans (updC_ne (by omega))).trans (((congrFun e19 _).trans (updC_ne (by omega))).trans (((congrFun e18 _).trans (updC_ne (by omega))).trans (((congrFun e17 _).trans (updC_ne (by omega))).trans (((congrFun e16 _).trans (updC_ne (by omega))).trans (((congrFun e15 _).trans (updC_ne (by omega))).trans (((congrFun e14 _).trans (updC_ne (by omega))).trans (((congrFun e13 _).trans (updC_ne (by omega))).trans (((congrFun e12 _).trans (updC_ne (by omega))).trans (((congrFun e11 _).trans (updC_ne (by omega))).trans (((congrFun e10 _).trans (updC_ne (by omega))).trans (((congrFun e9 _).trans (updC_ne (by omega))).trans (((congrFun e8 _).trans (updC_ne (by omega))).trans ((congrFun e7 _).trans updC_eq))))))))))))), ⟨((congrFun e20 _).trans (updC_ne (by omega))).trans (((congrFun e19 _).trans (updC_ne (by omega))).trans (((congrFun e18 _).trans (updC_ne (by omega))).trans (((congrFun e17 _).trans (updC_ne (by omega))).trans (((congrFun e16 _).trans (updC_ne (by omega))).trans (((congrFun e15 _).trans (updC_ne (by omega))).trans (((congrFun e14 _).trans (updC_ne (by omega))).trans (((congrFun e13 _).trans (updC_ne (by omega))).trans (((congrFun e12 _).trans (updC_ne (by omega))).trans (((congrFun e11 _).trans (updC_ne (by omega))).trans (((congrFun e10 _).trans (updC_ne (by omega))).trans ((congrFun e9 _).trans updC_eq))))))))))), ⟨((congrFun e20 _).trans (updC_ne (by omega))).trans (((congrFun e19 _).trans (updC_ne (by omega))).trans (((congrFun e18 _).trans (updC_ne (by omega))).trans (((congrFun e17 _).trans (updC_ne (by omega))).trans (((congrFun e16 _).trans (updC_ne (by omega))).trans (((congrFun e15 _).trans (updC_ne (by omega))).trans (((congrFun e14 _).trans (updC_ne (by omega))).trans (((congrFun e13 _).trans (updC_ne (by omega))).trans (((congrFun e12 _).trans (updC_ne (by omega))).trans ((congrFun e11 _).trans updC_eq))))))))), ⟨((congrFun e20 _).trans (updC_ne (by omega))).trans (((congrFun e19 _).trans (updC_ne (by omega))).trans (((congrFun e18 _).trans (updC_ne (by omega))).trans (((congrFun e17 _).trans (updC_ne (by omega))).trans (((congrFun e16 _).trans (updC_ne (by omega))).trans (((congrFun e15 _).trans (updC_ne (by omega))).trans (((congrFun e14 _).trans (updC_ne (by omega))).trans ((congrFun e13 _).trans updC_eq))))))), ⟨((congrFun e20 _).trans (updC_ne (by omega))).trans (((congrFun e19 _).trans (updC_ne (by omega))).trans (((congrFun e18 _).trans (updC_ne (by omega))).trans (((congrFun e17 _).trans (updC_ne (by omega))).trans (((congrFun e16 _).trans (updC_ne (by omega))).trans ((congrFun e15 _).trans updC_eq))))), ⟨((congrFun e20 _).trans (updC_ne (by omega))).trans (((congrFun e19 _).trans (updC_ne (by omega))).trans (((congrFun e18 _).trans (updC_ne (by omega))).trans ((congrFun e17 _).trans updC_eq))), ⟨((congrFun e20 _).trans (updC_ne (by omega))).trans ((congrFun e19 _).trans updC_eq), trivial⟩⟩⟩⟩⟩⟩⟩⟩)⟩⟩
def FP_l (a : Nat) (SP SD : St) : List PC := (10, [.ref (a + 1), .ref (a + 1 + 1), .ref (a + 33), .ref (a + 33 + 1), .ref (a + 70), .ref (a + 512)]) :: ((Reader_l (a + 1) SD) ++ ((Searches_l (a + 33) SP) ++ ((hist_l (a + 70)) ++ ((Bytes_l 20 (a + 512)) ++ ([])))))
theorem FP_len (a : Nat) (SP SD : St) : (FP_l a SP SD).length = 514 := by
  unfold FP_l
  have e1 : ∀ m b, (Bytes_l m b).length = 2 := fun _ _ => rfl
  simp only [List.length_cons, List.length_append, Reader_len, Searches_len, hist_len, List.length_nil, e1]
theorem ct_FP {E : EV} {C : Nat → PC} {a : Nat} (hm : eM E = false) (hx : a + 514 < 2000) (h0 : C a = (10, dfl 10)) {SP SD : St} (ha0 : a = 0) (h5 : fn_Plan_begin 5 1 16 Z0 = some SP) (h33 : fn_Plan_begin 33 1 16 Z0 = some SD) : Ev E M_FP_init [.ref a] (wdC (a + 1) C, true) 513 11950 (Post a C (FP_l a SP SD)) := by
  refine Ev.of pn_FP rfl (leK rfl) ?_
  show Go E M_FP_init 513 11950 0 [(0, .ref a)] [] (wdC (a + 1) C, true) 0 0 (Post a C (FP_l a SP SD))
  have h0 : C a = (10, [.null, .null, .null, .null, .null, .null]) := h0
  refine g_aloadn (pc := 0) (i0 := 0) (j := 0) (dK D_FP_init 0 rfl) rfl rfl ?_
  refine g_objinit (pc := 1) (dK D_FP_init 1 rfl) q_33 (leK rfl) (leK rfl) (leK rfl) ?_
  refine g_aloadn (pc := 4) (i0 := 0) (j := 0) (dK D_FP_init 2 rfl) rfl rfl ?_
  obtain ⟨C1, e1⟩ : ∃ D : Nat → PC, D = updC C (a + 1) (5, dfl 5) := ⟨_, rfl⟩
  refine c_new hm (pc := 5) (ci := 5) (N1 := (a + 2)) (dK D_FP_init 3 rfl) (ltK rfl) q_36 q_37 q_2 (leK rfl) (leK rfl) (by unfold XB; omega) rfl e1 ?_
  have f1 : C1 a = (10, [.null, .null, .null, .null, .null, .null]) := by rw [e1, updC_ne (by omega)]; exact h0
  have m1 : ∀ x, x < (a + 2) → (C1 x).1 < 900 := kl_push (fun x hx => by rw [show x = a by omega, h0]; exact ltK rfl) e1 rfl (ltK rfl)
  refine g_dup (pc := 8) (dK D_FP_init 4 rfl) rfl ?_
  refine c_callIN (pc := 9) (As := []) (rest := [.ref (a + 1), .ref a]) (mc' := 31) (ms' := 2604) (dK D_FP_init 5 rfl) K_FP_9 (fitK rfl) rfl (leK rfl) (leK rfl) (leK rfl) (ct_Reader hm (C := C1) (a := a + 1) (by omega) ((congrFun e1 _).trans updC_eq) (by omega) (fun x hx => m1 x (by omega)) h33) (postI (fun C2 p2 b2 => ?_))
  have f2 : C2 a = (10, [.null, .null, .null, .null, .null, .null]) := by rw [p2 a (by omega)]; exact f1
  have m2 : ∀ x, x < a + 33 → (C2 x).1 < 900 := kl_step (n := 32) m1 p2 b2 rfl kb_Reader Reader_len (by omega)
  rw [Reader_len]
  show Go E M_FP_init 513 11950 12 [(0, .ref a)] [.ref (a + 1), .ref a] (wdC (a + 33) C2, true) _ _ _
  obtain ⟨C3, e3⟩ : ∃ D : Nat → PC, D = updC C2 a (10, [.ref (a + 1), .null, .null, .null, .null, .null]) := ⟨_, rfl⟩
  refine c_putF (pc := 12) (ci := 10) (f := 0) (dK D_FP_init 6 rfl) q_422 (ltK rfl) (ltK rfl) rfl rfl rfl (okV_obj _ _) (by omega) (by unfold XB; omega) f2 (ltK rfl) rfl e3 ?_
  have f3 : C3 a = (10, [.ref (a + 1), .null, .null, .null, .null, .null]) := by rw [e3]; exact updC_eq
  have m3 : ∀ x, x < (a + 33) → (C3 x).1 < 900 := kl_upd m2 e3 (ltK rfl)
  refine g_aloadn (pc := 15) (i0 := 0) (j := 0) (dK D_FP_init 7 rfl) rfl rfl ?_
  refine g_aloadn (pc := 16) (i0 := 0) (j := 0) (dK D_FP_init 8 rfl) rfl rfl ?_
  refine c_get (pc := 17) (ci := 10) (f := 0) (dK D_FP_init 9 rfl) q_422 (ltK rfl) (ltK rfl) (by omega) (by unfold XB; omega) f3 rfl ?_
  have g20 : C3 (a + 1) = (5, [.ref (a + 1 + 1), .ref (a + 1 + 3), .ref (a + 1 + 31), .int 0, .int 0, .int 0, .int 0, V (-1)]) := ((congrFun e3 _).trans (updC_ne (by omega))).trans ((b2).1)
  refine c_get (pc := 20) (ci := 5) (f := 0) (dK D_FP_init 10 rfl) q_332 (ltK rfl) (ltK rfl) (by omega) (by unfold XB; omega) g20 rfl ?_
  obtain ⟨C4, e4⟩ : ∃ D : Nat → PC, D = updC C3 a (10, [.ref (a + 1), .ref (a + 1 + 1), .null, .null, .null, .null]) := ⟨_, rfl⟩
  refine c_putF (pc := 23) (ci := 10) (f := 1) (dK D_FP_init 11 rfl) q_423 (ltK rfl) (ltK rfl) rfl rfl rfl (okV_obj _ _) (by omega) (by unfold XB; omega) f3 (ltK rfl) rfl e4 ?_
  have f4 : C4 a = (10, [.ref (a + 1), .ref (a + 1 + 1), .null, .null, .null, .null]) := by rw [e4]; exact updC_eq
  have m4 : ∀ x, x < (a + 33) → (C4 x).1 < 900 := kl_upd m3 e4 (ltK rfl)
  refine g_aloadn (pc := 26) (i0 := 0) (j := 0) (dK D_FP_init 12 rfl) rfl rfl ?_
  obtain ⟨C5, e5⟩ : ∃ D : Nat → PC, D = updC C4 (a + 33) (6, dfl 6) := ⟨_, rfl⟩
  refine c_new hm (pc := 27) (ci := 6) (N1 := (a + 34)) (dK D_FP_init 13 rfl) (ltK rfl) q_360 q_361 q_12 (leK rfl) (leK rfl) (by unfold XB; omega) rfl e5 ?_
  have f5 : C5 a = (10, [.ref (a + 1), .ref (a + 1 + 1), .null, .null, .null, .null]) := by rw [e5, updC_ne (by omega)]; exact f4
  have m5 : ∀ x, x < (a + 34) → (C5 x).1 < 900 := kl_push m4 e5 rfl (ltK rfl)
  refine g_dup (pc := 30) (dK D_FP_init 14 rfl) rfl ?_
  refine c_callIN (pc := 31) (As := []) (rest := [.ref (a + 33), .ref a]) (mc' := 36) (ms' := 1323) (dK D_FP_init 15 rfl) K_FP_25 (fitK rfl) rfl (leK rfl) (leK rfl) (leK rfl) (ct_Searches hm (C := C5) (a := a + 33) (by omega) ((congrFun e5 _).trans updC_eq) (by omega) (fun x hx => m5 x (by omega)) h5) (postI (fun C6 p6 b6 => ?_))
  have f6 : C6 a = (10, [.ref (a + 1), .ref (a + 1 + 1), .null, .null, .null, .null]) := by rw [p6 a (by omega)]; exact f5
  rw [Searches_len]
  show Go E M_FP_init 513 11950 34 [(0, .ref a)] [.ref (a + 33), .ref a] (wdC (a + 70) C6, true) _ _ _
  obtain ⟨C7, e7⟩ : ∃ D : Nat → PC, D = updC C6 a (10, [.ref (a + 1), .ref (a + 1 + 1), .ref (a + 33), .null, .null, .null]) := ⟨_, rfl⟩
  refine c_putF (pc := 34) (ci := 10) (f := 2) (dK D_FP_init 16 rfl) q_424 (ltK rfl) (ltK rfl) rfl rfl rfl (okV_obj _ _) (by omega) (by unfold XB; omega) f6 (ltK rfl) rfl e7 ?_
  have f7 : C7 a = (10, [.ref (a + 1), .ref (a + 1 + 1), .ref (a + 33), .null, .null, .null]) := by rw [e7]; exact updC_eq
  refine g_aloadn (pc := 37) (i0 := 0) (j := 0) (dK D_FP_init 17 rfl) rfl rfl ?_
  refine g_aloadn (pc := 38) (i0 := 0) (j := 0) (dK D_FP_init 18 rfl) rfl rfl ?_
  refine c_get (pc := 39) (ci := 10) (f := 2) (dK D_FP_init 19 rfl) q_424 (ltK rfl) (ltK rfl) (by omega) (by unfold XB; omega) f7 rfl ?_
  have g42 : C7 (a + 33) = (6, [.ref (a + 33 + 1), .ref (a + 33 + 2), .ref (a + 33 + 29), .ref (a + 33 + 30), .ref (a + 33 + 31), .ref (a + 33 + 32), .ref (a + 33 + 33), .ref (a + 33 + 34), .ref (a + 33 + 35), .ref (a + 33 + 36)]) := ((congrFun e7 _).trans (updC_ne (by omega))).trans ((b6).1)
  refine c_get (pc := 42) (ci := 6) (f := 0) (dK D_FP_init 20 rfl) q_369 (ltK rfl) (ltK rfl) (by omega) (by unfold XB; omega) g42 rfl ?_
  obtain ⟨C8, e8⟩ : ∃ D : Nat → PC, D = updC C7 a (10, [.ref (a + 1), .ref (a + 1 + 1), .ref (a + 33), .ref (a + 33 + 1), .null, .null]) := ⟨_, rfl⟩
  refine c_putF (pc := 45) (ci := 10) (f := 3) (dK D_FP_init 21 rfl) q_425 (ltK rfl) (ltK rfl) rfl rfl rfl (okV_obj _ _) (by omega) (by unfold XB; omega) f7 (ltK rfl) rfl e8 ?_
  have f8 : C8 a = (10, [.ref (a + 1), .ref (a + 1 + 1), .ref (a + 33), .ref (a + 33 + 1), .null, .null]) := by rw [e8]; exact updC_eq
  refine g_aloadn (pc := 48) (i0 := 0) (j := 0) (dK D_FP_init 22 rfl) rfl rfl ?_
  obtain ⟨C9, e9⟩ : ∃ D : Nat → PC, D = updC C8 (a + 70) (3, dfl 3) := ⟨_, rfl⟩
  refine c_new hm (pc := 49) (ci := 3) (N1 := (a + 71)) (dK D_FP_init 23 rfl) (ltK rfl) q_400 q_401 q_13 (leK rfl) (leK rfl) (by unfold XB; omega) rfl e9 ?_
  have f9 : C9 a = (10, [.ref (a + 1), .ref (a + 1 + 1), .ref (a + 33), .ref (a + 33 + 1), .null, .null]) := by rw [e9, updC_ne (by omega)]; exact f8
  refine g_dup (pc := 52) (dK D_FP_init 24 rfl) rfl ?_
  refine c_callI (pc := 53) (As := []) (rest := [.ref (a + 70), .ref a]) (mc' := 441) (ms' := 7980) (dK D_FP_init 25 rfl) K_FP_37 (fitK rfl) rfl (leK rfl) (leK rfl) (leK rfl) (ct_History hm (C := C9) (a := a + 70) (by omega) ((congrFun e9 _).trans updC_eq)) (postI (fun C10 p10 b10 => ?_))
  have f10 : C10 a = (10, [.ref (a + 1), .ref (a + 1 + 1), .ref (a + 33), .ref (a + 33 + 1), .null, .null]) := by rw [p10 a (by omega)]; exact f9
  rw [hist_len]
  show Go E M_FP_init 513 11950 56 [(0, .ref a)] [.ref (a + 70), .ref a] (wdC (a + 512) C10, true) _ _ _
  obtain ⟨C11, e11⟩ : ∃ D : Nat → PC, D = updC C10 a (10, [.ref (a + 1), .ref (a + 1 + 1), .ref (a + 33), .ref (a + 33 + 1), .ref (a + 70), .null]) := ⟨_, rfl⟩
  refine c_putF (pc := 56) (ci := 10) (f := 4) (dK D_FP_init 26 rfl) q_426 (ltK rfl) (ltK rfl) rfl rfl rfl (okV_obj _ _) (by omega) (by unfold XB; omega) f10 (ltK rfl) rfl e11 ?_
  have f11 : C11 a = (10, [.ref (a + 1), .ref (a + 1 + 1), .ref (a + 33), .ref (a + 33 + 1), .ref (a + 70), .null]) := by rw [e11]; exact updC_eq
  refine g_aloadn (pc := 59) (i0 := 0) (j := 0) (dK D_FP_init 27 rfl) rfl rfl ?_
  obtain ⟨C12, e12⟩ : ∃ D : Nat → PC, D = updC C11 (a + 512) (1, dfl 1) := ⟨_, rfl⟩
  refine c_new hm (pc := 60) (ci := 1) (N1 := (a + 513)) (dK D_FP_init 28 rfl) (ltK rfl) q_420 q_43 q_3 (leK rfl) (leK rfl) (by unfold XB; omega) rfl e12 ?_
  have f12 : C12 a = (10, [.ref (a + 1), .ref (a + 1 + 1), .ref (a + 33), .ref (a + 33 + 1), .ref (a + 70), .null]) := by rw [e12, updC_ne (by omega)]; exact f11
  refine g_dup (pc := 63) (dK D_FP_init 29 rfl) rfl ?_
  refine vg_bipush' (pc := 64) (dK D_FP_init 30 rfl) rfl ?_
  refine c_callI (pc := 66) (As := [V (20)]) (rest := [.ref (a + 512), .ref a]) (mc' := 1) (ms' := 20) (dK D_FP_init 31 rfl) K_FP_44 (fitK rfl) rfl (leK rfl) (leK rfl) (leK rfl) (ct_Bytes hm (C := C12) (a := a + 512) (M := 20) rfl (by omega) ((congrFun e12 _).trans updC_eq)) (postI (fun C13 p13 b13 => ?_))
  have f13 : C13 a = (10, [.ref (a + 1), .ref (a + 1 + 1), .ref (a + 33), .ref (a + 33 + 1), .ref (a + 70), .null]) := by rw [p13 a (by omega)]; exact f12
  show Go E M_FP_init 513 11950 69 [(0, .ref a)] [.ref (a + 512), .ref a] (wdC (a + 514) C13, true) _ _ _
  obtain ⟨C14, e14⟩ : ∃ D : Nat → PC, D = updC C13 a (10, [.ref (a + 1), .ref (a + 1 + 1), .ref (a + 33), .ref (a + 33 + 1), .ref (a + 70), .ref (a + 512)]) := ⟨_, rfl⟩
  refine c_putF (pc := 69) (ci := 10) (f := 5) (dK D_FP_init 32 rfl) q_427 (ltK rfl) (ltK rfl) rfl rfl rfl (okV_obj _ _) (by omega) (by unfold XB; omega) f13 (ltK rfl) rfl e14 ?_
  have f14 : C14 a = (10, [.ref (a + 1), .ref (a + 1 + 1), .ref (a + 33), .ref (a + 33 + 1), .ref (a + 70), .ref (a + 512)]) := by rw [e14]; exact updC_eq
  exact g_return (pc := 72) (dK D_FP_init 33 rfl) rfl (leK rfl) (leK rfl) (fun _ => rfl) ⟨rfl, C14, congrArg (fun z => (wdC z C14, true)) (by rw [FP_len]), fun x hx => ((congrFun e14 _).trans (updC_ne (by omega))).trans ((p13 _ (by omega)).trans (((congrFun e12 _).trans (updC_ne (by omega))).trans (((congrFun e11 _).trans (updC_ne (by omega))).trans ((p10 _ (by omega)).trans (((congrFun e9 _).trans (updC_ne (by omega))).trans (((congrFun e8 _).trans (updC_ne (by omega))).trans (((congrFun e7 _).trans (updC_ne (by omega))).trans ((p6 _ (by omega)).trans (((congrFun e5 _).trans (updC_ne (by omega))).trans (((congrFun e4 _).trans (updC_ne (by omega))).trans (((congrFun e3 _).trans (updC_ne (by omega))).trans ((p2 _ (by omega)).trans (((congrFun e1 _).trans (updC_ne (by omega))).trans (rfl)))))))))))))), ⟨f14, Blk.app' (n := 32) Reader_len (Blk.pres (fun x h1 h2 => ((congrFun e14 _).trans (updC_ne (by rw [Reader_len] at h2; omega))).trans ((p13 _ (by rw [Reader_len] at h2; omega)).trans (((congrFun e12 _).trans (updC_ne (by rw [Reader_len] at h2; omega))).trans (((congrFun e11 _).trans (updC_ne (by rw [Reader_len] at h2; omega))).trans ((p10 _ (by rw [Reader_len] at h2; omega)).trans (((congrFun e9 _).trans (updC_ne (by rw [Reader_len] at h2; omega))).trans (((congrFun e8 _).trans (updC_ne (by rw [Reader_len] at h2; omega))).trans (((congrFun e7 _).trans (updC_ne (by rw [Reader_len] at h2; omega))).trans ((p6 _ (by rw [Reader_len] at h2; omega)).trans (((congrFun e5 _).trans (updC_ne (by rw [Reader_len] at h2; omega))).trans (((congrFun e4 _).trans (updC_ne (by rw [Reader_len] at h2; omega))).trans (((congrFun e3 _).trans (updC_ne (by rw [Reader_len] at h2; omega))).trans (rfl))))))))))))) b2) (Blk.app' (n := 37) Searches_len (Blk.pres (fun x h1 h2 => ((congrFun e14 _).trans (updC_ne (by rw [Searches_len] at h2; omega))).trans ((p13 _ (by rw [Searches_len] at h2; omega)).trans (((congrFun e12 _).trans (updC_ne (by rw [Searches_len] at h2; omega))).trans (((congrFun e11 _).trans (updC_ne (by rw [Searches_len] at h2; omega))).trans ((p10 _ (by rw [Searches_len] at h2; omega)).trans (((congrFun e9 _).trans (updC_ne (by rw [Searches_len] at h2; omega))).trans (((congrFun e8 _).trans (updC_ne (by rw [Searches_len] at h2; omega))).trans (((congrFun e7 _).trans (updC_ne (by rw [Searches_len] at h2; omega))).trans (rfl))))))))) b6) (Blk.app' (n := 442) hist_len (Blk.pres (fun x h1 h2 => ((congrFun e14 _).trans (updC_ne (by rw [hist_len] at h2; omega))).trans ((p13 _ (by rw [hist_len] at h2; omega)).trans (((congrFun e12 _).trans (updC_ne (by rw [hist_len] at h2; omega))).trans (((congrFun e11 _).trans (updC_ne (by rw [hist_len] at h2; omega))).trans (rfl))))) b10) (Blk.app' (n := 2) rfl (Blk.pres (fun x h1 h2 => ((congrFun e14 _).trans (updC_ne (by have h2 : x < _ + 2 := h2; omega))).trans (rfl)) b13) (trivial))))⟩⟩
def ModP_l (a : Nat) : List PC := (11, [.ref (a + 1), V (1), V (16), .int 0, .int 0, .ref (a + 2), .ref (a + 3), .ref (a + 4), .ref (a + 5), .ref (a + 6), .ref (a + 7), .ref (a + 8), .int 0, .ref (a + 9), .int 0, .int 0, .int 0, V (-1), .int 0, .int 0, .int 0, .long 0]) :: ((100, List.replicate 8740 (.int 0)) :: ((102, List.replicate 40 (.int 0)) :: ((100, List.replicate 4 (.int 0)) :: ((100, List.replicate 65 (.int 0)) :: ((100, List.replicate 65 (.int 0)) :: ((100, List.replicate 65 (.int 0)) :: ((102, List.replicate 2600 (.int 0)) :: ((100, List.replicate 60 (.int 0)) :: ((101, List.replicate 1600 (.int 0)) :: ([]))))))))))
def Zm : St := u (u (u Z0 514 1 1) 514 2 16) 514 17 (-1)
def mod_l (a : Nat) (S1 : St) : List PC := (List.range 10).map (fun j => cS S1 (a + j))
theorem mod_len {a : Nat} {S1 : St} : (mod_l a S1).length = 10 := by unfold mod_l; rw [List.length_map, List.length_range]
theorem mod_cl : ∀ x, x < 524 → 514 ≤ x → (∀ q ∈ fkT, kd x = q.1 → 514 ≤ tgt x q.2.1 ∧ tgt x q.2.1 < 524) ∧ kd x ≠ 105 := by decide +kernel
theorem sl_rep {S : St} {a n : Nat} {v : Value} (hk : Nat.ble 100 (kd a) = true) (hl : ln a = n) (hv : ∀ i, i < n → av S a i = v) : sl S a = List.replicate n v := by
  have hk := Nat.ble_eq.mp hk
  unfold sl
  rw [if_neg (by omega), hl, List.map_congr_left (g := fun _ => v) (fun i hi => hv i (List.mem_range.mp hi)), List.map_const', List.length_range]
theorem cS_rep {S : St} {a n t : Nat} {v : Value} (hk : kd a = 100 + t) (hl : ln a = n) (hv : ∀ i, i < n → av S a i = v) : (100 + t, List.replicate n v) = cS S a := by
  unfold cS
  rw [sl_rep (by rw [hk]; exact Nat.ble_eq.mpr (by omega)) hl hv, hk]
theorem modZ : ∀ j, j < 10 → (ModP_l 514)[j]? = some (cS Zm (514 + j)) := by
  intro j hj
  match j with
  | 0 => rfl
  | 1 => exact congrArg some (cS_rep (t := 0) rfl rfl (fun i _ => rfl))
  | 2 => exact congrArg some (cS_rep (t := 2) rfl rfl (fun i _ => rfl))
  | 3 => exact congrArg some (cS_rep (t := 0) rfl rfl (fun i _ => rfl))
  | 4 => exact congrArg some (cS_rep (t := 0) rfl rfl (fun i _ => rfl))
  | 5 => exact congrArg some (cS_rep (t := 0) rfl rfl (fun i _ => rfl))
  | 6 => exact congrArg some (cS_rep (t := 0) rfl rfl (fun i _ => rfl))
  | 7 => exact congrArg some (cS_rep (t := 2) rfl rfl (fun i _ => rfl))
  | 8 => exact congrArg some (cS_rep (t := 0) rfl rfl (fun i _ => rfl))
  | 9 => exact congrArg some (cS_rep (t := 1) rfl rfl (fun i _ => rfl))
  | n + 10 => omega
theorem mod_end {E : EV} {C Cn : Nat → PC} {a : Nat} {S1 : St} (ha : a = 514) (hfn : fn_Mo_clearBlock a 0 Zm = some S1) (hb : Blk Cn a (ModP_l a)) (hp : ∀ x, x < a → Cn x = C x) :
    Go E M_Mo_init 9 13239 96 [(0, .ref a)] [V 0, .ref a] (wdC (a + 10) Cn, true) 9 13239 (Post a C (mod_l a S1)) := by
  have hz : ∀ j, j < 10 → Cn (a + j) = cS Zm (a + j) := by
    subst ha
    exact fun j hj => hb.at (modZ j hj)
  have hc : HC (mkX a 10 Cn) 11 a := by
    refine ⟨?_, by show a < a + 10; omega, Nat.ble_eq.mpr (Nat.le_refl _), ?_⟩
    · subst ha
      exact mkX_cl (Nat.le_of_ble_eq_true rfl) mod_cl
    · subst ha; rfl
  rw [← mkX_w hz]
  refine vg_cV (pc := 96) (As := [V 0]) (rest := []) (mc' := 0) (ms' := 0) (dK D_Mo_init_0 49 rfl) K_Mo_49 (fitK rfl) (ltK rfl) hc rfl (leK rfl) (leK rfl) (leK rfl) (tf_Mo_clearBlock hc (inRk rfl) hfn) (kcU ?_)
  refine g_return (pc := 99) (dK D_Mo_init_1 0 rfl) rfl (leK rfl) (leK rfl) (fun _ => rfl) ⟨rfl, (fun x => if Nat.ble a x = true then cS S1 x else Cn x), ?_, ?_, Blk.of (fun j hj => ?_)⟩
  · rw [mod_len]; exact mkX_o
  · intro x hx
    show (if Nat.ble a x = true then cS S1 x else Cn x) = C x
    rw [if_neg (fun z => by have := Nat.ble_eq.mp z; omega)]
    exact hp x hx
  · show (if Nat.ble a (a + j) = true then cS S1 (a + j) else Cn (a + j)) = _
    rw [if_pos (Nat.ble_eq.mpr (by omega))]

theorem ct_ModP {E : EV} {C : Nat → PC} {a : Nat} (hm : eM E = false) (hx : a + 10 < 2000) (h0 : C a = (11, dfl 11)) {S1 : St} (ha : a = 514) (hfn : fn_Mo_clearBlock a 0 Zm = some S1) : Ev E M_Mo_init [.ref a] (wdC (a + 1) C, true) 9 13239 (Post a C (mod_l a S1)) := by
  refine Ev.of pn_Mo rfl (leK rfl) ?_
  show Go E M_Mo_init 9 13239 0 [(0, .ref a)] [] (wdC (a + 1) C, true) 0 0 (Post a C (mod_l a S1))
  have h0 : C a = (11, [.null, .int 0, .int 0, .int 0, .int 0, .null, .null, .null, .null, .null, .null, .null, .int 0, .null, .int 0, .int 0, .int 0, .int 0, .int 0, .int 0, .int 0, .long 0]) := h0
  refine g_aloadn (pc := 0) (i0 := 0) (j := 0) (dK D_Mo_init_0 0 rfl) rfl rfl ?_
  refine g_objinit (pc := 1) (dK D_Mo_init_0 1 rfl) q_1437 (leK rfl) (leK rfl) (leK rfl) ?_
  refine g_aloadn (pc := 4) (i0 := 0) (j := 0) (dK D_Mo_init_0 2 rfl) rfl rfl ?_
  refine vg_sipush' (pc := 5) (dK D_Mo_init_0 3 rfl) rfl ?_
  obtain ⟨C1, e1⟩ : ∃ D : Nat → PC, D = updC C (a + 1) (100, List.replicate 8740 (.int 0)) := ⟨_, rfl⟩
  refine c_newarr_int hm (pc := 8) (M := 8740) (N1 := (a + 2)) (dK D_Mo_init_0 4 rfl) rfl (leK rfl) (leK rfl) (by unfold XB; omega) rfl e1 ?_
  have f1 : C1 a = (11, [.null, .int 0, .int 0, .int 0, .int 0, .null, .null, .null, .null, .null, .null, .null, .int 0, .null, .int 0, .int 0, .int 0, .int 0, .int 0, .int 0, .int 0, .long 0]) := by rw [e1, updC_ne (by omega)]; exact h0
  obtain ⟨C2, e2⟩ : ∃ D : Nat → PC, D = updC C1 a (11, [.ref (a + 1), .int 0, .int 0, .int 0, .int 0, .null, .null, .null, .null, .null, .null, .null, .int 0, .null, .int 0, .int 0, .int 0, .int 0, .int 0, .int 0, .int 0, .long 0]) := ⟨_, rfl⟩
  refine c_putF (pc := 10) (ci := 11) (f := 0) (dK D_Mo_init_0 5 rfl) q_1442 (ltK rfl) (ltK rfl) rfl rfl rfl (okV_arr _ _) (by omega) (by unfold XB; omega) f1 (ltK rfl) rfl e2 ?_
  have f2 : C2 a = (11, [.ref (a + 1), .int 0, .int 0, .int 0, .int 0, .null, .null, .null, .null, .null, .null, .null, .int 0, .null, .int 0, .int 0, .int 0, .int 0, .int 0, .int 0, .int 0, .long 0]) := by rw [e2]; exact updC_eq
  refine g_aloadn (pc := 13) (i0 := 0) (j := 0) (dK D_Mo_init_0 6 rfl) rfl rfl ?_
  refine vg_iconst' (pc := 14) (dK D_Mo_init_0 7 rfl) ?_
  obtain ⟨C3, e3⟩ : ∃ D : Nat → PC, D = updC C2 a (11, [.ref (a + 1), V (1), .int 0, .int 0, .int 0, .null, .null, .null, .null, .null, .null, .null, .int 0, .null, .int 0, .int 0, .int 0, .int 0, .int 0, .int 0, .int 0, .long 0]) := ⟨_, rfl⟩
  refine c_put (pc := 15) (ci := 11) (f := 1) (dK D_Mo_init_0 8 rfl) q_1443 (ltK rfl) (ltK rfl) rfl (okV_int _) (by omega) (by unfold XB; omega) f2 (ltK rfl) rfl e3 ?_
  have f3 : C3 a = (11, [.ref (a + 1), V (1), .int 0, .int 0, .int 0, .null, .null, .null, .null, .null, .null, .null, .int 0, .null, .int 0, .int 0, .int 0, .int 0, .int 0, .int 0, .int 0, .long 0]) := by rw [e3]; exact updC_eq
  refine g_aloadn (pc := 18) (i0 := 0) (j := 0) (dK D_Mo_init_0 9 rfl) rfl rfl ?_
  refine vg_bipush' (pc := 19) (dK D_Mo_init_0 10 rfl) rfl ?_
  obtain ⟨C4, e4⟩ : ∃ D : Nat → PC, D = updC C3 a (11, [.ref (a + 1), V (1), V (16), .int 0, .int 0, .null, .null, .null, .null, .null, .null, .null, .int 0, .null, .int 0, .int 0, .int 0, .int 0, .int 0, .int 0, .int 0, .long 0]) := ⟨_, rfl⟩
  refine c_put (pc := 21) (ci := 11) (f := 2) (dK D_Mo_init_0 11 rfl) q_1444 (ltK rfl) (ltK rfl) rfl (okV_int _) (by omega) (by unfold XB; omega) f3 (ltK rfl) rfl e4 ?_
  have f4 : C4 a = (11, [.ref (a + 1), V (1), V (16), .int 0, .int 0, .null, .null, .null, .null, .null, .null, .null, .int 0, .null, .int 0, .int 0, .int 0, .int 0, .int 0, .int 0, .int 0, .long 0]) := by rw [e4]; exact updC_eq
  refine g_aloadn (pc := 24) (i0 := 0) (j := 0) (dK D_Mo_init_0 12 rfl) rfl rfl ?_
  refine vg_bipush' (pc := 25) (dK D_Mo_init_0 13 rfl) rfl ?_
  obtain ⟨C5, e5⟩ : ∃ D : Nat → PC, D = updC C4 (a + 2) (102, List.replicate 40 (.int 0)) := ⟨_, rfl⟩
  refine c_newarr_bool hm (pc := 27) (M := 40) (N1 := (a + 3)) (dK D_Mo_init_0 14 rfl) rfl (leK rfl) (leK rfl) (by unfold XB; omega) rfl e5 ?_
  have f5 : C5 a = (11, [.ref (a + 1), V (1), V (16), .int 0, .int 0, .null, .null, .null, .null, .null, .null, .null, .int 0, .null, .int 0, .int 0, .int 0, .int 0, .int 0, .int 0, .int 0, .long 0]) := by rw [e5, updC_ne (by omega)]; exact f4
  obtain ⟨C6, e6⟩ : ∃ D : Nat → PC, D = updC C5 a (11, [.ref (a + 1), V (1), V (16), .int 0, .int 0, .ref (a + 2), .null, .null, .null, .null, .null, .null, .int 0, .null, .int 0, .int 0, .int 0, .int 0, .int 0, .int 0, .int 0, .long 0]) := ⟨_, rfl⟩
  refine c_putF (pc := 29) (ci := 11) (f := 5) (dK D_Mo_init_0 15 rfl) q_1447 (ltK rfl) (ltK rfl) rfl rfl rfl (okV_arr _ _) (by omega) (by unfold XB; omega) f5 (ltK rfl) rfl e6 ?_
  have f6 : C6 a = (11, [.ref (a + 1), V (1), V (16), .int 0, .int 0, .ref (a + 2), .null, .null, .null, .null, .null, .null, .int 0, .null, .int 0, .int 0, .int 0, .int 0, .int 0, .int 0, .int 0, .long 0]) := by rw [e6]; exact updC_eq
  refine g_aloadn (pc := 32) (i0 := 0) (j := 0) (dK D_Mo_init_0 16 rfl) rfl rfl ?_
  refine vg_iconst' (pc := 33) (dK D_Mo_init_0 17 rfl) ?_
  obtain ⟨C7, e7⟩ : ∃ D : Nat → PC, D = updC C6 (a + 3) (100, List.replicate 4 (.int 0)) := ⟨_, rfl⟩
  refine c_newarr_int hm (pc := 34) (M := 4) (N1 := (a + 4)) (dK D_Mo_init_0 18 rfl) rfl (leK rfl) (leK rfl) (by unfold XB; omega) rfl e7 ?_
  have f7 : C7 a = (11, [.ref (a + 1), V (1), V (16), .int 0, .int 0, .ref (a + 2), .null, .null, .null, .null, .null, .null, .int 0, .null, .int 0, .int 0, .int 0, .int 0, .int 0, .int 0, .int 0, .long 0]) := by rw [e7, updC_ne (by omega)]; exact f6
  obtain ⟨C8, e8⟩ : ∃ D : Nat → PC, D = updC C7 a (11, [.ref (a + 1), V (1), V (16), .int 0, .int 0, .ref (a + 2), .ref (a + 3), .null, .null, .null, .null, .null, .int 0, .null, .int 0, .int 0, .int 0, .int 0, .int 0, .int 0, .int 0, .long 0]) := ⟨_, rfl⟩
  refine c_putF (pc := 36) (ci := 11) (f := 6) (dK D_Mo_init_0 19 rfl) q_1448 (ltK rfl) (ltK rfl) rfl rfl rfl (okV_arr _ _) (by omega) (by unfold XB; omega) f7 (ltK rfl) rfl e8 ?_
  have f8 : C8 a = (11, [.ref (a + 1), V (1), V (16), .int 0, .int 0, .ref (a + 2), .ref (a + 3), .null, .null, .null, .null, .null, .int 0, .null, .int 0, .int 0, .int 0, .int 0, .int 0, .int 0, .int 0, .long 0]) := by rw [e8]; exact updC_eq
  refine g_aloadn (pc := 39) (i0 := 0) (j := 0) (dK D_Mo_init_0 20 rfl) rfl rfl ?_
  refine vg_bipush' (pc := 40) (dK D_Mo_init_0 21 rfl) rfl ?_
  obtain ⟨C9, e9⟩ : ∃ D : Nat → PC, D = updC C8 (a + 4) (100, List.replicate 65 (.int 0)) := ⟨_, rfl⟩
  refine c_newarr_int hm (pc := 42) (M := 65) (N1 := (a + 5)) (dK D_Mo_init_0 22 rfl) rfl (leK rfl) (leK rfl) (by unfold XB; omega) rfl e9 ?_
  have f9 : C9 a = (11, [.ref (a + 1), V (1), V (16), .int 0, .int 0, .ref (a + 2), .ref (a + 3), .null, .null, .null, .null, .null, .int 0, .null, .int 0, .int 0, .int 0, .int 0, .int 0, .int 0, .int 0, .long 0]) := by rw [e9, updC_ne (by omega)]; exact f8
  obtain ⟨C10, e10⟩ : ∃ D : Nat → PC, D = updC C9 a (11, [.ref (a + 1), V (1), V (16), .int 0, .int 0, .ref (a + 2), .ref (a + 3), .ref (a + 4), .null, .null, .null, .null, .int 0, .null, .int 0, .int 0, .int 0, .int 0, .int 0, .int 0, .int 0, .long 0]) := ⟨_, rfl⟩
  refine c_putF (pc := 44) (ci := 11) (f := 7) (dK D_Mo_init_0 23 rfl) q_1449 (ltK rfl) (ltK rfl) rfl rfl rfl (okV_arr _ _) (by omega) (by unfold XB; omega) f9 (ltK rfl) rfl e10 ?_
  have f10 : C10 a = (11, [.ref (a + 1), V (1), V (16), .int 0, .int 0, .ref (a + 2), .ref (a + 3), .ref (a + 4), .null, .null, .null, .null, .int 0, .null, .int 0, .int 0, .int 0, .int 0, .int 0, .int 0, .int 0, .long 0]) := by rw [e10]; exact updC_eq
  refine g_aloadn (pc := 47) (i0 := 0) (j := 0) (dK D_Mo_init_0 24 rfl) rfl rfl ?_
  refine vg_bipush' (pc := 48) (dK D_Mo_init_0 25 rfl) rfl ?_
  obtain ⟨C11, e11⟩ : ∃ D : Nat → PC, D = updC C10 (a + 5) (100, List.replicate 65 (.int 0)) := ⟨_, rfl⟩
  refine c_newarr_int hm (pc := 50) (M := 65) (N1 := (a + 6)) (dK D_Mo_init_0 26 rfl) rfl (leK rfl) (leK rfl) (by unfold XB; omega) rfl e11 ?_
  have f11 : C11 a = (11, [.ref (a + 1), V (1), V (16), .int 0, .int 0, .ref (a + 2), .ref (a + 3), .ref (a + 4), .null, .null, .null, .null, .int 0, .null, .int 0, .int 0, .int 0, .int 0, .int 0, .int 0, .int 0, .long 0]) := by rw [e11, updC_ne (by omega)]; exact f10
  obtain ⟨C12, e12⟩ : ∃ D : Nat → PC, D = updC C11 a (11, [.ref (a + 1), V (1), V (16), .int 0, .int 0, .ref (a + 2), .ref (a + 3), .ref (a + 4), .ref (a + 5), .null, .null, .null, .int 0, .null, .int 0, .int 0, .int 0, .int 0, .int 0, .int 0, .int 0, .long 0]) := ⟨_, rfl⟩
  refine c_putF (pc := 52) (ci := 11) (f := 8) (dK D_Mo_init_0 27 rfl) q_1450 (ltK rfl) (ltK rfl) rfl rfl rfl (okV_arr _ _) (by omega) (by unfold XB; omega) f11 (ltK rfl) rfl e12 ?_
  have f12 : C12 a = (11, [.ref (a + 1), V (1), V (16), .int 0, .int 0, .ref (a + 2), .ref (a + 3), .ref (a + 4), .ref (a + 5), .null, .null, .null, .int 0, .null, .int 0, .int 0, .int 0, .int 0, .int 0, .int 0, .int 0, .long 0]) := by rw [e12]; exact updC_eq
  refine g_aloadn (pc := 55) (i0 := 0) (j := 0) (dK D_Mo_init_0 28 rfl) rfl rfl ?_
  refine vg_bipush' (pc := 56) (dK D_Mo_init_0 29 rfl) rfl ?_
  obtain ⟨C13, e13⟩ : ∃ D : Nat → PC, D = updC C12 (a + 6) (100, List.replicate 65 (.int 0)) := ⟨_, rfl⟩
  refine c_newarr_int hm (pc := 58) (M := 65) (N1 := (a + 7)) (dK D_Mo_init_0 30 rfl) rfl (leK rfl) (leK rfl) (by unfold XB; omega) rfl e13 ?_
  have f13 : C13 a = (11, [.ref (a + 1), V (1), V (16), .int 0, .int 0, .ref (a + 2), .ref (a + 3), .ref (a + 4), .ref (a + 5), .null, .null, .null, .int 0, .null, .int 0, .int 0, .int 0, .int 0, .int 0, .int 0, .int 0, .long 0]) := by rw [e13, updC_ne (by omega)]; exact f12
  obtain ⟨C14, e14⟩ : ∃ D : Nat → PC, D = updC C13 a (11, [.ref (a + 1), V (1), V (16), .int 0, .int 0, .ref (a + 2), .ref (a + 3), .ref (a + 4), .ref (a + 5), .ref (a + 6), .null, .null, .int 0, .null, .int 0, .int 0, .int 0, .int 0, .int 0, .int 0, .int 0, .long 0]) := ⟨_, rfl⟩
  refine c_putF (pc := 60) (ci := 11) (f := 9) (dK D_Mo_init_0 31 rfl) q_1451 (ltK rfl) (ltK rfl) rfl rfl rfl (okV_arr _ _) (by omega) (by unfold XB; omega) f13 (ltK rfl) rfl e14 ?_
  have f14 : C14 a = (11, [.ref (a + 1), V (1), V (16), .int 0, .int 0, .ref (a + 2), .ref (a + 3), .ref (a + 4), .ref (a + 5), .ref (a + 6), .null, .null, .int 0, .null, .int 0, .int 0, .int 0, .int 0, .int 0, .int 0, .int 0, .long 0]) := by rw [e14]; exact updC_eq
  refine g_aloadn (pc := 63) (i0 := 0) (j := 0) (dK D_Mo_init_0 32 rfl) rfl rfl ?_
  refine vg_sipush' (pc := 64) (dK D_Mo_init_0 33 rfl) rfl ?_
  obtain ⟨C15, e15⟩ : ∃ D : Nat → PC, D = updC C14 (a + 7) (102, List.replicate 2600 (.int 0)) := ⟨_, rfl⟩
  refine c_newarr_bool hm (pc := 67) (M := 2600) (N1 := (a + 8)) (dK D_Mo_init_0 34 rfl) rfl (leK rfl) (leK rfl) (by unfold XB; omega) rfl e15 ?_
  have f15 : C15 a = (11, [.ref (a + 1), V (1), V (16), .int 0, .int 0, .ref (a + 2), .ref (a + 3), .ref (a + 4), .ref (a + 5), .ref (a + 6), .null, .null, .int 0, .null, .int 0, .int 0, .int 0, .int 0, .int 0, .int 0, .int 0, .long 0]) := by rw [e15, updC_ne (by omega)]; exact f14
  obtain ⟨C16, e16⟩ : ∃ D : Nat → PC, D = updC C15 a (11, [.ref (a + 1), V (1), V (16), .int 0, .int 0, .ref (a + 2), .ref (a + 3), .ref (a + 4), .ref (a + 5), .ref (a + 6), .ref (a + 7), .null, .int 0, .null, .int 0, .int 0, .int 0, .int 0, .int 0, .int 0, .int 0, .long 0]) := ⟨_, rfl⟩
  refine c_putF (pc := 69) (ci := 11) (f := 10) (dK D_Mo_init_0 35 rfl) q_1452 (ltK rfl) (ltK rfl) rfl rfl rfl (okV_arr _ _) (by omega) (by unfold XB; omega) f15 (ltK rfl) rfl e16 ?_
  have f16 : C16 a = (11, [.ref (a + 1), V (1), V (16), .int 0, .int 0, .ref (a + 2), .ref (a + 3), .ref (a + 4), .ref (a + 5), .ref (a + 6), .ref (a + 7), .null, .int 0, .null, .int 0, .int 0, .int 0, .int 0, .int 0, .int 0, .int 0, .long 0]) := by rw [e16]; exact updC_eq
  refine g_aloadn (pc := 72) (i0 := 0) (j := 0) (dK D_Mo_init_0 36 rfl) rfl rfl ?_
  refine vg_bipush' (pc := 73) (dK D_Mo_init_0 37 rfl) rfl ?_
  obtain ⟨C17, e17⟩ : ∃ D : Nat → PC, D = updC C16 (a + 8) (100, List.replicate 60 (.int 0)) := ⟨_, rfl⟩
  refine c_newarr_int hm (pc := 75) (M := 60) (N1 := (a + 9)) (dK D_Mo_init_0 38 rfl) rfl (leK rfl) (leK rfl) (by unfold XB; omega) rfl e17 ?_
  have f17 : C17 a = (11, [.ref (a + 1), V (1), V (16), .int 0, .int 0, .ref (a + 2), .ref (a + 3), .ref (a + 4), .ref (a + 5), .ref (a + 6), .ref (a + 7), .null, .int 0, .null, .int 0, .int 0, .int 0, .int 0, .int 0, .int 0, .int 0, .long 0]) := by rw [e17, updC_ne (by omega)]; exact f16
  obtain ⟨C18, e18⟩ : ∃ D : Nat → PC, D = updC C17 a (11, [.ref (a + 1), V (1), V (16), .int 0, .int 0, .ref (a + 2), .ref (a + 3), .ref (a + 4), .ref (a + 5), .ref (a + 6), .ref (a + 7), .ref (a + 8), .int 0, .null, .int 0, .int 0, .int 0, .int 0, .int 0, .int 0, .int 0, .long 0]) := ⟨_, rfl⟩
  refine c_putF (pc := 77) (ci := 11) (f := 11) (dK D_Mo_init_0 39 rfl) q_1453 (ltK rfl) (ltK rfl) rfl rfl rfl (okV_arr _ _) (by omega) (by unfold XB; omega) f17 (ltK rfl) rfl e18 ?_
  have f18 : C18 a = (11, [.ref (a + 1), V (1), V (16), .int 0, .int 0, .ref (a + 2), .ref (a + 3), .ref (a + 4), .ref (a + 5), .ref (a + 6), .ref (a + 7), .ref (a + 8), .int 0, .null, .int 0, .int 0, .int 0, .int 0, .int 0, .int 0, .int 0, .long 0]) := by rw [e18]; exact updC_eq
  refine g_aloadn (pc := 80) (i0 := 0) (j := 0) (dK D_Mo_init_0 40 rfl) rfl rfl ?_
  refine vg_sipush' (pc := 81) (dK D_Mo_init_0 41 rfl) rfl ?_
  obtain ⟨C19, e19⟩ : ∃ D : Nat → PC, D = updC C18 (a + 9) (101, List.replicate 1600 (.int 0)) := ⟨_, rfl⟩
  refine c_newarr_byte hm (pc := 84) (M := 1600) (N1 := (a + 10)) (dK D_Mo_init_0 42 rfl) rfl (leK rfl) (leK rfl) (by unfold XB; omega) rfl e19 ?_
  have f19 : C19 a = (11, [.ref (a + 1), V (1), V (16), .int 0, .int 0, .ref (a + 2), .ref (a + 3), .ref (a + 4), .ref (a + 5), .ref (a + 6), .ref (a + 7), .ref (a + 8), .int 0, .null, .int 0, .int 0, .int 0, .int 0, .int 0, .int 0, .int 0, .long 0]) := by rw [e19, updC_ne (by omega)]; exact f18
  obtain ⟨C20, e20⟩ : ∃ D : Nat → PC, D = updC C19 a (11, [.ref (a + 1), V (1), V (16), .int 0, .int 0, .ref (a + 2), .ref (a + 3), .ref (a + 4), .ref (a + 5), .ref (a + 6), .ref (a + 7), .ref (a + 8), .int 0, .ref (a + 9), .int 0, .int 0, .int 0, .int 0, .int 0, .int 0, .int 0, .long 0]) := ⟨_, rfl⟩
  refine c_putF (pc := 86) (ci := 11) (f := 13) (dK D_Mo_init_0 43 rfl) q_1455 (ltK rfl) (ltK rfl) rfl rfl rfl (okV_arr _ _) (by omega) (by unfold XB; omega) f19 (ltK rfl) rfl e20 ?_
  have f20 : C20 a = (11, [.ref (a + 1), V (1), V (16), .int 0, .int 0, .ref (a + 2), .ref (a + 3), .ref (a + 4), .ref (a + 5), .ref (a + 6), .ref (a + 7), .ref (a + 8), .int 0, .ref (a + 9), .int 0, .int 0, .int 0, .int 0, .int 0, .int 0, .int 0, .long 0]) := by rw [e20]; exact updC_eq
  refine g_aloadn (pc := 89) (i0 := 0) (j := 0) (dK D_Mo_init_0 44 rfl) rfl rfl ?_
  refine vg_iconst' (pc := 90) (dK D_Mo_init_0 45 rfl) ?_
  obtain ⟨C21, e21⟩ : ∃ D : Nat → PC, D = updC C20 a (11, [.ref (a + 1), V (1), V (16), .int 0, .int 0, .ref (a + 2), .ref (a + 3), .ref (a + 4), .ref (a + 5), .ref (a + 6), .ref (a + 7), .ref (a + 8), .int 0, .ref (a + 9), .int 0, .int 0, .int 0, V (-1), .int 0, .int 0, .int 0, .long 0]) := ⟨_, rfl⟩
  refine c_put (pc := 91) (ci := 11) (f := 17) (dK D_Mo_init_0 46 rfl) q_1459 (ltK rfl) (ltK rfl) rfl (okV_int _) (by omega) (by unfold XB; omega) f20 (ltK rfl) rfl e21 ?_
  have f21 : C21 a = (11, [.ref (a + 1), V (1), V (16), .int 0, .int 0, .ref (a + 2), .ref (a + 3), .ref (a + 4), .ref (a + 5), .ref (a + 6), .ref (a + 7), .ref (a + 8), .int 0, .ref (a + 9), .int 0, .int 0, .int 0, V (-1), .int 0, .int 0, .int 0, .long 0]) := by rw [e21]; exact updC_eq
  refine g_aloadn (pc := 94) (i0 := 0) (j := 0) (dK D_Mo_init_0 47 rfl) rfl rfl ?_
  refine vg_iconst' (pc := 95) (dK D_Mo_init_0 48 rfl) ?_
  have hb : Blk C21 a (ModP_l a) := ⟨f21, ⟨((congrFun e21 _).trans (updC_ne (by omega))).trans (((congrFun e20 _).trans (updC_ne (by omega))).trans (((congrFun e19 _).trans (updC_ne (by omega))).trans (((congrFun e18 _).trans (updC_ne (by omega))).trans (((congrFun e17 _).trans (updC_ne (by omega))).trans (((congrFun e16 _).trans (updC_ne (by omega))).trans (((congrFun e15 _).trans (updC_ne (by omega))).trans (((congrFun e14 _).trans (updC_ne (by omega))).trans (((congrFun e13 _).trans (updC_ne (by omega))).trans (((congrFun e12 _).trans (updC_ne (by omega))).trans (((congrFun e11 _).trans (updC_ne (by omega))).trans (((congrFun e10 _).trans (updC_ne (by omega))).trans (((congrFun e9 _).trans (updC_ne (by omega))).trans (((congrFun e8 _).trans (updC_ne (by omega))).trans (((congrFun e7 _).trans (updC_ne (by omega))).trans (((congrFun e6 _).trans (updC_ne (by omega))).trans (((congrFun e5 _).trans (updC_ne (by omega))).trans (((congrFun e4 _).trans (updC_ne (by omega))).trans (((congrFun e3 _).trans (updC_ne (by omega))).trans (((congrFun e2 _).trans (updC_ne (by omega))).trans ((congrFun e1 _).trans updC_eq)))))))))))))))))))), ⟨((congrFun e21 _).trans (updC_ne (by omega))).trans (((congrFun e20 _).trans (updC_ne (by omega))).trans (((congrFun e19 _).trans (updC_ne (by omega))).trans (((congrFun e18 _).trans (updC_ne (by omega))).trans (((congrFun e17 _).trans (updC_ne (by omega))).trans (((congrFun e16 _).trans (updC_ne (by omega))).trans (((congrFun e15 _).trans (updC_ne (by omega))).trans (((congrFun e14 _).trans (updC_ne (by omega))).trans (((congrFun e13 _).trans (updC_ne (by omega))).trans (((congrFun e12 _).trans (updC_ne (by omega))).trans (((congrFun e11 _).trans (updC_ne (by omega))).trans (((congrFun e10 _).trans (updC_ne (by omega))).trans (((congrFun e9 _).trans (updC_ne (by omega))).trans (((congrFun e8 _).trans (updC_ne (by omega))).trans (((congrFun e7 _).trans (updC_ne (by omega))).trans (((congrFun e6 _).trans (updC_ne (by omega))).trans ((congrFun e5 _).trans updC_eq)))))))))))))))), ⟨((congrFun e21 _).trans (updC_ne (by omega))).trans (((congrFun e20 _).trans (updC_ne (by omega))).trans (((congrFun e19 _).trans (updC_ne (by omega))).trans (((congrFun e18 _).trans (updC_ne (by omega))).trans (((congrFun e17 _).trans (updC_ne (by omega))).trans (((congrFun e16 _).trans (updC_ne (by omega))).trans (((congrFun e15 _).trans (updC_ne (by omega))).trans (((congrFun e14 _).trans (updC_ne (by omega))).trans (((congrFun e13 _).trans (updC_ne (by omega))).trans (((congrFun e12 _).trans (updC_ne (by omega))).trans (((congrFun e11 _).trans (updC_ne (by omega))).trans (((congrFun e10 _).trans (updC_ne (by omega))).trans (((congrFun e9 _).trans (updC_ne (by omega))).trans (((congrFun e8 _).trans (updC_ne (by omega))).trans ((congrFun e7 _).trans updC_eq)))))))))))))), ⟨((congrFun e21 _).trans (updC_ne (by omega))).trans (((congrFun e20 _).trans (updC_ne (by omega))).trans (((congrFun e19 _).trans (updC_ne (by omega))).trans (((congrFun e18 _).trans (updC_ne (by omega))).trans (((congrFun e17 _).trans (updC_ne (by omega))).trans (((congrFun e16 _).trans (updC_ne (by omega))).trans (((congrFun e15 _).trans (updC_ne (by omega))).trans (((congrFun e14 _).trans (updC_ne (by omega))).trans (((congrFun e13 _).trans (updC_ne (by omega))).trans (((congrFun e12 _).trans (updC_ne (by omega))).trans (((congrFun e11 _).trans (updC_ne (by omega))).trans (((congrFun e10 _).trans (updC_ne (by omega))).trans ((congrFun e9 _).trans updC_eq)))))))))))), ⟨((congrFun e21 _).trans (updC_ne (by omega))).trans (((congrFun e20 _).trans (updC_ne (by omega))).trans (((congrFun e19 _).trans (updC_ne (by omega))).trans (((congrFun e18 _).trans (updC_ne (by omega))).trans (((congrFun e17 _).trans (updC_ne (by omega))).trans (((congrFun e16 _).trans (updC_ne (by omega))).trans (((congrFun e15 _).trans (updC_ne (by omega))).trans (((congrFun e14 _).trans (updC_ne (by omega))).trans (((congrFun e13 _).trans (updC_ne (by omega))).trans (((congrFun e12 _).trans (updC_ne (by omega))).trans ((congrFun e11 _).trans updC_eq)))))))))), ⟨((congrFun e21 _).trans (updC_ne (by omega))).trans (((congrFun e20 _).trans (updC_ne (by omega))).trans (((congrFun e19 _).trans (updC_ne (by omega))).trans (((congrFun e18 _).trans (updC_ne (by omega))).trans (((congrFun e17 _).trans (updC_ne (by omega))).trans (((congrFun e16 _).trans (updC_ne (by omega))).trans (((congrFun e15 _).trans (updC_ne (by omega))).trans (((congrFun e14 _).trans (updC_ne (by omega))).trans ((congrFun e13 _).trans updC_eq)))))))), ⟨((congrFun e21 _).trans (updC_ne (by omega))).trans (((congrFun e20 _).trans (updC_ne (by omega))).trans (((congrFun e19 _).trans (updC_ne (by omega))).trans (((congrFun e18 _).trans (updC_ne (by omega))).trans (((congrFun e17 _).trans (updC_ne (by omega))).trans (((congrFun e16 _).trans (updC_ne (by omega))).trans ((congrFun e15 _).trans updC_eq)))))), ⟨((congrFun e21 _).trans (updC_ne (by omega))).trans (((congrFun e20 _).trans (updC_ne (by omega))).trans (((congrFun e19 _).trans (updC_ne (by omega))).trans (((congrFun e18 _).trans (updC_ne (by omega))).trans ((congrFun e17 _).trans updC_eq)))), ⟨((congrFun e21 _).trans (updC_ne (by omega))).trans (((congrFun e20 _).trans (updC_ne (by omega))).trans ((congrFun e19 _).trans updC_eq)), trivial⟩⟩⟩⟩⟩⟩⟩⟩⟩⟩
  have hp : ∀ x, x < a → C21 x = C x := fun x hx => ((congrFun e21 _).trans (updC_ne (by omega))).trans (((congrFun e20 _).trans (updC_ne (by omega))).trans (((congrFun e19 _).trans (updC_ne (by omega))).trans (((congrFun e18 _).trans (updC_ne (by omega))).trans (((congrFun e17 _).trans (updC_ne (by omega))).trans (((congrFun e16 _).trans (updC_ne (by omega))).trans (((congrFun e15 _).trans (updC_ne (by omega))).trans (((congrFun e14 _).trans (updC_ne (by omega))).trans (((congrFun e13 _).trans (updC_ne (by omega))).trans (((congrFun e12 _).trans (updC_ne (by omega))).trans (((congrFun e11 _).trans (updC_ne (by omega))).trans (((congrFun e10 _).trans (updC_ne (by omega))).trans (((congrFun e9 _).trans (updC_ne (by omega))).trans (((congrFun e8 _).trans (updC_ne (by omega))).trans (((congrFun e7 _).trans (updC_ne (by omega))).trans (((congrFun e6 _).trans (updC_ne (by omega))).trans (((congrFun e5 _).trans (updC_ne (by omega))).trans (((congrFun e4 _).trans (updC_ne (by omega))).trans (((congrFun e3 _).trans (updC_ne (by omega))).trans (((congrFun e2 _).trans (updC_ne (by omega))).trans (((congrFun e1 _).trans (updC_ne (by omega))).trans (rfl)))))))))))))))))))))
  exact mod_end ha hfn hb hp
