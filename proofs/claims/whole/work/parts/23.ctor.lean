
/-! CONSTRUCTORS -/
def wdC (N : Nat) (C : Nat → PC) : List PC := (List.range N).map C
def updC (C : Nat → PC) (a : Nat) (v : PC) : Nat → PC := fun x => if x = a then v else C x
theorem wdc_len {N : Nat} {C : Nat → PC} : (wdC N C).length = N := by unfold wdC; rw [List.length_map, List.length_range]
theorem wdc_at {N x : Nat} {C : Nat → PC} (h : x < N) : (wdC N C)[x]? = some (C x) := by unfold wdC; rw [List.getElem?_map, List.getElem?_range h]; rfl
theorem updC_eq {C : Nat → PC} {a : Nat} {v : PC} : updC C a v a = v := if_pos rfl
theorem updC_ne {C : Nat → PC} {a x : Nat} {v : PC} (h : x ≠ a) : updC C a v x = C x := if_neg h
theorem wdc_congr {N : Nat} {C C' : Nat → PC} (h : ∀ x, x < N → C x = C' x) : wdC N C = wdC N C' := List.map_congr_left (fun x hx => h x (List.mem_range.mp hx))
theorem wdc_push {N : Nat} {C : Nat → PC} {v : PC} : wdC N C ++ [v] = wdC (N + 1) (updC C N v) := by
  unfold wdC
  rw [List.range_succ, List.map_append, List.map_cons, List.map_nil, updC_eq]
  congr 1
  exact List.map_congr_left (fun x hx => (updC_ne (Nat.ne_of_lt (List.mem_range.mp hx))).symm)
theorem wdc_set {N a : Nat} {C : Nat → PC} {v : PC} : (wdC N C).set a v = wdC N (updC C a v) := by
  apply List.ext_getElem?
  intro j
  rw [List.getElem?_set]
  by_cases hl : j < N
  · rw [wdc_at hl, wdc_at hl, wdc_len]
    by_cases hj : a = j
    · subst hj; rw [if_pos rfl, if_pos hl, updC_eq]
    · rw [if_neg hj, updC_ne (fun e => hj e.symm)]
  · rw [List.getElem?_eq_none (by rw [wdc_len]; omega), List.getElem?_eq_none (by rw [wdc_len]; omega), wdc_len]
    split
    · rw [if_neg (by omega)]
    · rfl
def Blk (C : Nat → PC) : Nat → List PC → Prop
  | _, [] => True
  | a, v :: l => C a = v ∧ Blk C (a + 1) l
theorem Blk.app {C : Nat → PC} : ∀ {l l' : List PC} {a : Nat}, Blk C a l → Blk C (a + l.length) l' → Blk C a (l ++ l')
  | [], _, _, _, h => h
  | v :: l, l', a, h, h' => ⟨h.1, Blk.app h.2 (by rw [show a + 1 + l.length = a + (v :: l).length by rw [List.length_cons]; omega]; exact h')⟩
theorem Blk.app' {C : Nat → PC} {l l' : List PC} {a n : Nat} (hn : l.length = n) (h : Blk C a l) (h' : Blk C (a + n) l') : Blk C a (l ++ l') := Blk.app h (by rw [hn]; exact h')
theorem Blk.pres {C C' : Nat → PC} : ∀ {l : List PC} {a : Nat}, (∀ x, a ≤ x → x < a + l.length → C' x = C x) → Blk C a l → Blk C' a l
  | [], _, _, _ => trivial
  | v :: l, a, hp, h => ⟨(hp a (Nat.le_refl _) (by rw [List.length_cons]; omega)).trans h.1, Blk.pres (fun x h1 h2 => hp x (by omega) (by rw [List.length_cons]; omega)) h.2⟩
theorem Blk.at {C : Nat → PC} : ∀ {l : List PC} {a j : Nat} {v : PC}, Blk C a l → l[j]? = some v → C (a + j) = v
  | [], _, _, _, _, h => by cases h
  | w :: l, a, 0, v, h, hv => by rw [← Option.some.inj hv]; exact h.1
  | w :: l, a, j + 1, v, h, hv => by rw [show a + (j + 1) = a + 1 + j by omega]; exact Blk.at h.2 hv
/-- what a constructor of the cell a leaves: a block of cells -/
def Post (a : Nat) (C : Nat → PC) (l : List PC) : RK → PS → Prop := fun rk w => rk = .inl none ∧ ∃ C' : Nat → PC, w = (wdC (a + l.length) C', true) ∧ (∀ x, x < a → C' x = C x) ∧ Blk C' a l
def arI (n : Nat) : PC := (100, List.replicate n (.int 0))
section CRules
variable {E : EV} {Y Y' : MI} {mc ms mc' ms' pc k n i nA N N1 : Nat} {ls : List (Nat × Value)} {st As rest : List Value} {C C1 : Nat → PC} {K K' : RK → PS → Prop}
theorem c_newarr_int {M : Nat} (hd : decode (mBy Y) pc = .ok (.newarray .int, 2)) (hM : Nat.ble M 16384 = true) (hk : k + 1 ≤ mc) (hn : n + M ≤ ms) (hx : N < XB) (hN1 : N + 1 = N1) (e : C1 = updC C N (100, List.replicate M (.int 0)))
    (h : Go E Y mc ms (pc + 2) ls (.ref N :: st) (wdC N1 C1, true) (k + 1) (n + M) K) : Go E Y mc ms pc ls (V (M : Int) :: st) (wdC N C, true) k n K := by
  subst e hN1
  have hM' := Nat.le_of_ble_eq_true hM
  have e1 : (Int32.ofInt (M : Int)).toInt = (M : Int) := I_toInt (by unfold inR; omega)
  refine g_newarr_int hd q_51 (by rw [e1]; omega) (by rw [e1]; omega) hM' hk hn (by rw [wdc_len]; exact hx) ?_
  rw [wdc_len, wdc_push]
  exact h
theorem c_newarr_byte {M : Nat} (hd : decode (mBy Y) pc = .ok (.newarray .byte, 2)) (hM : Nat.ble M 16384 = true) (hk : k + 1 ≤ mc) (hn : n + M ≤ ms) (hx : N < XB) (hN1 : N + 1 = N1) (e : C1 = updC C N (101, List.replicate M (.int 0)))
    (h : Go E Y mc ms (pc + 2) ls (.ref N :: st) (wdC N1 C1, true) (k + 1) (n + M) K) : Go E Y mc ms pc ls (V (M : Int) :: st) (wdC N C, true) k n K := by
  subst e hN1
  have hM' := Nat.le_of_ble_eq_true hM
  have e1 : (Int32.ofInt (M : Int)).toInt = (M : Int) := I_toInt (by unfold inR; omega)
  refine g_newarr_byte hd q_678 (by rw [e1]; omega) (by rw [e1]; omega) hM' hk hn (by rw [wdc_len]; exact hx) ?_
  rw [wdc_len, wdc_push]
  exact h
theorem c_newarr_bool {M : Nat} (hd : decode (mBy Y) pc = .ok (.newarray .boolean, 2)) (hM : Nat.ble M 16384 = true) (hk : k + 1 ≤ mc) (hn : n + M ≤ ms) (hx : N < XB) (hN1 : N + 1 = N1) (e : C1 = updC C N (102, List.replicate M (.int 0)))
    (h : Go E Y mc ms (pc + 2) ls (.ref N :: st) (wdC N1 C1, true) (k + 1) (n + M) K) : Go E Y mc ms pc ls (V (M : Int) :: st) (wdC N C, true) k n K := by
  subst e hN1
  have hM' := Nat.le_of_ble_eq_true hM
  have e1 : (Int32.ofInt (M : Int)).toInt = (M : Int) := I_toInt (by unfold inR; omega)
  refine g_newarr_bool hd q_1506 (by rw [e1]; omega) (by rw [e1]; omega) hM' hk hn (by rw [wdc_len]; exact hx) ?_
  rw [wdc_len, wdc_push]
  exact h
theorem c_newarr_long {M : Nat} (hd : decode (mBy Y) pc = .ok (.newarray .long, 2)) (hM : Nat.ble M 16384 = true) (hk : k + 1 ≤ mc) (hn : n + M ≤ ms) (hx : N < XB) (hN1 : N + 1 = N1) (e : C1 = updC C N (103, List.replicate M (.long 0)))
    (h : Go E Y mc ms (pc + 2) ls (.ref N :: st) (wdC N1 C1, true) (k + 1) (n + M) K) : Go E Y mc ms pc ls (V (M : Int) :: st) (wdC N C, true) k n K := by
  subst e hN1
  have hM' := Nat.le_of_ble_eq_true hM
  have e1 : (Int32.ofInt (M : Int)).toInt = (M : Int) := I_toInt (by unfold inR; omega)
  refine g_newarr_long hd q_2124 (by rw [e1]; omega) (by rw [e1]; omega) hM' hk hn (by rw [wdc_len]; exact hx) ?_
  rw [wdc_len, wdc_push]
  exact h
theorem c_newarr_dbl {M : Nat} (hd : decode (mBy Y) pc = .ok (.newarray .double, 2)) (hM : Nat.ble M 16384 = true) (hk : k + 1 ≤ mc) (hn : n + M ≤ ms) (hx : N < XB) (hN1 : N + 1 = N1) (e : C1 = updC C N (104, List.replicate M (.double 0)))
    (h : Go E Y mc ms (pc + 2) ls (.ref N :: st) (wdC N1 C1, true) (k + 1) (n + M) K) : Go E Y mc ms pc ls (V (M : Int) :: st) (wdC N C, true) k n K := by
  subst e hN1
  have hM' := Nat.le_of_ble_eq_true hM
  have e1 : (Int32.ofInt (M : Int)).toInt = (M : Int) := I_toInt (by unfold inR; omega)
  refine g_newarr_dbl hd q_2125 (by rw [e1]; omega) (by rw [e1]; omega) hM' hk hn (by rw [wdc_len]; exact hx) ?_
  rw [wdc_len, wdc_push]
  exact h
theorem c_new {ci : Nat} (hd : decode (mBy Y) pc = .ok (.new i, 3)) (hci : ci < 12) (h1 : Cond.classLink (mNm Y).cls i (RC ci) ∈ gtbl) (h2 : Cond.instantiable (RC ci) (NC ci) ∈ gtbl) (h3 : Cond.initialized (RC ci) ∈ gtbl) (hk : k + 1 ≤ mc) (hn : n + NC ci ≤ ms) (hx : N < XB) (hN1 : N + 1 = N1) (e : C1 = updC C N (ci, dfl ci))
    (h : Go E Y mc ms (pc + 3) ls (.ref N :: st) (wdC N1 C1, true) (k + 1) (n + NC ci) K) : Go E Y mc ms pc ls st (wdC N C, true) k n K := by
  subst e hN1
  refine g_new hd hci h1 h2 h3 hk hn (by rw [wdc_len]; exact hx) ?_
  rw [wdc_len, wdc_push]
  exact h
theorem c_anew {M : Nat} (hd : decode (mBy Y) pc = .ok (.anewarray i, 3)) (h1 : Cond.classLink (mNm Y).cls i "FlatPlan$State" ∈ gtbl) (hM : Nat.ble M 16384 = true) (hk : k + 1 ≤ mc) (hn : n + M ≤ ms) (hx : N < XB) (hN1 : N + 1 = N1) (e : C1 = updC C N (105, List.replicate M .null))
    (h : Go E Y mc ms (pc + 3) ls (.ref N :: st) (wdC N1 C1, true) (k + 1) (n + M) K) : Go E Y mc ms pc ls (V (M : Int) :: st) (wdC N C, true) k n K := by
  subst e hN1
  have hM' := Nat.le_of_ble_eq_true hM
  have e1 : (Int32.ofInt (M : Int)).toInt = (M : Int) := I_toInt (by unfold inR; omega)
  refine g_anewarr hd h1 (by rw [e1]; omega) (by rw [e1]; omega) hM' hk hn (by rw [wdc_len]; exact hx) ?_
  rw [wdc_len, wdc_push]
  exact h
theorem c_putF {a ci f : Nat} {vs vs1 : List Value} {v : Value} (hd : decode (mBy Y) pc = .ok (.putfield i, 3)) (hw : Cond.fieldLink (mNm Y).cls i (TC ci f).1 (TC ci f).2.1 (TC ci f).2.2.1 ∈ gtbl) (hci : ci < 12) (hf : f < NC ci) (hfin : (TC ci f).2.2.2 = true) (hin : (mNm Y).name = "<init>") (hdc : (TC ci f).1 = (mNm Y).cls) (hty : okV (TYC ci f) v) (ha : a < N) (hN : N ≤ XB) (hc : C a = (ci, vs)) (hl0 : f < vs.length) (hv : vs.set f v = vs1) (e : C1 = updC C a (ci, vs1))
    (h : Go E Y mc ms (pc + 3) ls st (wdC N C1, true) k n K) : Go E Y mc ms pc ls (v :: .ref a :: st) (wdC N C, true) k n K := by
  subst e hv
  refine g_putfinal hd hw hci hf hfin hin hdc hty (Nat.lt_of_lt_of_le ha hN) (by rw [← hc]; exact wdc_at ha) hl0 ?_
  show Go E Y mc ms (pc + 3) ls st ((wdC N C).set a _, true) k n K
  rw [wdc_set]
  exact h
theorem c_put {a ci f : Nat} {vs vs1 : List Value} {v : Value} (hd : decode (mBy Y) pc = .ok (.putfield i, 3)) (hw : Cond.fieldLink (mNm Y).cls i (TC ci f).1 (TC ci f).2.1 (TC ci f).2.2.1 ∈ gtbl) (hci : ci < 12) (hf : f < NC ci) (hfin : (TC ci f).2.2.2 = false) (hty : okV (TYC ci f) v) (ha : a < N) (hN : N ≤ XB) (hc : C a = (ci, vs)) (hl0 : f < vs.length) (hv : vs.set f v = vs1) (e : C1 = updC C a (ci, vs1))
    (h : Go E Y mc ms (pc + 3) ls st (wdC N C1, true) k n K) : Go E Y mc ms pc ls (v :: .ref a :: st) (wdC N C, true) k n K := by
  subst e hv
  refine g_putfield hd hw hci hf hfin hty (Nat.lt_of_lt_of_le ha hN) (by rw [← hc]; exact wdc_at ha) hl0 ?_
  show Go E Y mc ms (pc + 3) ls st ((wdC N C).set a _, true) k n K
  rw [wdc_set]
  exact h
theorem c_get {a ci f : Nat} {vs : List Value} {v : Value} (hd : decode (mBy Y) pc = .ok (.getfield i, 3)) (hw : Cond.fieldLink (mNm Y).cls i (TC ci f).1 (TC ci f).2.1 (TC ci f).2.2.1 ∈ gtbl) (hci : ci < 12) (hf : f < NC ci) (ha : a < N) (hN : N ≤ XB) (hc : C a = (ci, vs)) (hv : vs[f]? = some v)
    (h : Go E Y mc ms (pc + 3) ls (v :: st) (wdC N C, true) k n K) : Go E Y mc ms pc ls (.ref a :: st) (wdC N C, true) k n K :=
  g_getfield hd hw hci hf (Nat.lt_of_lt_of_le ha hN) (by rw [← hc]; exact wdc_at ha) hv h
theorem Blk.flat {f : Nat → List PC} (hf : ∀ j, (f j).length = 22) : ∀ {n b : Nat}, (∀ j, j < n → Blk C (b + 22 * j) (f j)) → Blk C b ((List.range n).flatMap f) ∧ ((List.range n).flatMap f).length = 22 * n
  | 0, _, _ => ⟨trivial, rfl⟩
  | n + 1, b, h => by
    have q := Blk.flat hf (n := n) (b := b) (fun j hj => h j (by omega))
    rw [List.range_succ, List.flatMap_append, List.flatMap_cons, List.flatMap_nil, List.append_nil]
    refine ⟨Blk.app q.1 (by rw [q.2]; exact h n (by omega)), ?_⟩
    rw [List.length_append, q.2, hf]; omega
theorem postI {l : List PC} {a : Nat} (h : ∀ C' : Nat → PC, (∀ x, x < a → C' x = C x) → Blk C' a l → Go E Y mc ms pc ls rest (wdC (a + l.length) C', true) k n K) : ∀ rk w, Post a C l rk w → KN E Y mc ms pc ls rest true k n K rk w := by
  rintro _ _ ⟨rfl, C', rfl, h1, h2⟩
  exact h C' h1 h2
theorem c_callI {b : Nat} {w : PS} (hd : decode (mBy Y) pc = .ok (.invokespecial i, 3)) (hw : LI (mNm Y).cls i Y' nA) (hf : Fits Y Y') (hA : As.length = nA) (hr8 : (rest.map fun v => v.category).sum ≤ 8) (hk : k + mc' ≤ mc) (hn : n + ms' ≤ ms)
    (hE : Ev E Y' (.ref b :: As) w mc' ms' K') (hK : ∀ rk w', K' rk w' → KN E Y mc ms (pc + 3) ls rest w.2 (k + mc') (n + ms') K rk w') : Go E Y mc ms pc ls (As.reverse ++ .ref b :: rest) w k n K := g_callI hd hw hf hA hr8 hk hn (hE.mono hK)
theorem c_callIN {b : Nat} {w : PS} (hd : decode (mBy Y) pc = .ok (.invokespecial i, 3)) (hw : LIN (mNm Y).cls i Y' nA) (hf : Fits Y Y') (hA : As.length = nA) (hr8 : (rest.map fun v => v.category).sum ≤ 8) (hk : k + mc' ≤ mc) (hn : n + ms' ≤ ms)
    (hE : Ev E Y' (.ref b :: As) w mc' ms' K') (hK : ∀ rk w', K' rk w' → KN E Y mc ms (pc + 3) ls rest w.2 (k + mc') (n + ms') K rk w') : Go E Y mc ms pc ls (As.reverse ++ .ref b :: rest) w k n K := g_callIN hd hw hf hA hr8 hk hn (hE.mono hK)
end CRules

theorem vg_bipush' {E : EV} {Y : MI} {mc ms pc k n : Nat} {ls : List (Nat × Value)} {st : List Value} {w : PS} {K : RK → PS → Prop} {z : Int} (hd : decode (mBy Y) pc = .ok (.bipush z, 2)) (hz : (Int8.ofInt z).toInt32 = Int32.ofInt z) (h : Go E Y mc ms (pc + 2) ls (V z :: st) w k n K) : Go E Y mc ms pc ls st w k n K := g_bipush hd hz h
theorem vg_sipush' {E : EV} {Y : MI} {mc ms pc k n : Nat} {ls : List (Nat × Value)} {st : List Value} {w : PS} {K : RK → PS → Prop} {z : Int} (hd : decode (mBy Y) pc = .ok (.sipush z, 3)) (hz : (Int16.ofInt z).toInt32 = Int32.ofInt z) (h : Go E Y mc ms (pc + 3) ls (V z :: st) w k n K) : Go E Y mc ms pc ls st w k n K := g_sipush hd hz h
theorem vg_iconst' {E : EV} {Y : MI} {mc ms pc k n : Nat} {ls : List (Nat × Value)} {st : List Value} {w : PS} {K : RK → PS → Prop} {z : Int} (hd : decode (mBy Y) pc = .ok (.iconst z, 1)) (h : Go E Y mc ms (pc + 1) ls (V z :: st) w k n K) : Go E Y mc ms pc ls st w k n K := g_iconst hd rfl h
def Ads_l (a : Nat) : List PC := (0, [.ref (a + 1), .ref (a + 2), .ref (a + 3), .ref (a + 4), .ref (a + 5), .ref (a + 6), .ref (a + 7), .int 0]) :: ((100, List.replicate 40 (.int 0)) :: ((100, List.replicate 40 (.int 0)) :: ((100, List.replicate 40 (.int 0)) :: ((100, List.replicate 40 (.int 0)) :: ((100, List.replicate 40 (.int 0)) :: ((100, List.replicate 40 (.int 0)) :: ((100, List.replicate 40 (.int 0)) :: ([]))))))))
theorem ct_Ads {E : EV} {C : Nat → PC} {a : Nat} (hx : a + 8 < 2000) (h0 : C a = (0, dfl 0)) : Ev E M_Ads_init [.ref a] (wdC (a + 1) C, true) 7 280 (Post a C (Ads_l a)) := by
  refine Ev.of pn_Ads rfl (leK rfl) ?_
  show Go E M_Ads_init 7 280 0 [(0, .ref a)] [] (wdC (a + 1) C, true) 0 0 (Post a C (Ads_l a))
  have h0 : C a = (0, [.null, .null, .null, .null, .null, .null, .null, .int 0]) := h0
  refine g_aloadn (pc := 0) (i0 := 0) (j := 0) (dK D_Ads_init 0 rfl) rfl rfl ?_
  refine g_objinit (pc := 1) (dK D_Ads_init 1 rfl) q_69 (leK rfl) (leK rfl) (leK rfl) ?_
  refine g_aloadn (pc := 4) (i0 := 0) (j := 0) (dK D_Ads_init 2 rfl) rfl rfl ?_
  refine vg_bipush' (pc := 5) (dK D_Ads_init 3 rfl) rfl ?_
  obtain ⟨C1, e1⟩ : ∃ D : Nat → PC, D = updC C (a + 1) (100, List.replicate 40 (.int 0)) := ⟨_, rfl⟩
  refine c_newarr_int (pc := 7) (M := 40) (N1 := (a + 2)) (dK D_Ads_init 4 rfl) rfl (leK rfl) (leK rfl) (by unfold XB; omega) rfl e1 ?_
  have f1 : C1 a = (0, [.null, .null, .null, .null, .null, .null, .null, .int 0]) := by rw [e1, updC_ne (by omega)]; exact h0
  obtain ⟨C2, e2⟩ : ∃ D : Nat → PC, D = updC C1 a (0, [.ref (a + 1), .null, .null, .null, .null, .null, .null, .int 0]) := ⟨_, rfl⟩
  refine c_putF (pc := 9) (ci := 0) (f := 0) (dK D_Ads_init 5 rfl) q_70 (ltK rfl) (ltK rfl) rfl rfl rfl (okV_arr _ _) (by omega) (by unfold XB; omega) f1 (ltK rfl) rfl e2 ?_
  have f2 : C2 a = (0, [.ref (a + 1), .null, .null, .null, .null, .null, .null, .int 0]) := by rw [e2]; exact updC_eq
  refine g_aloadn (pc := 12) (i0 := 0) (j := 0) (dK D_Ads_init 6 rfl) rfl rfl ?_
  refine vg_bipush' (pc := 13) (dK D_Ads_init 7 rfl) rfl ?_
  obtain ⟨C3, e3⟩ : ∃ D : Nat → PC, D = updC C2 (a + 2) (100, List.replicate 40 (.int 0)) := ⟨_, rfl⟩
  refine c_newarr_int (pc := 15) (M := 40) (N1 := (a + 3)) (dK D_Ads_init 8 rfl) rfl (leK rfl) (leK rfl) (by unfold XB; omega) rfl e3 ?_
  have f3 : C3 a = (0, [.ref (a + 1), .null, .null, .null, .null, .null, .null, .int 0]) := by rw [e3, updC_ne (by omega)]; exact f2
  obtain ⟨C4, e4⟩ : ∃ D : Nat → PC, D = updC C3 a (0, [.ref (a + 1), .ref (a + 2), .null, .null, .null, .null, .null, .int 0]) := ⟨_, rfl⟩
  refine c_putF (pc := 17) (ci := 0) (f := 1) (dK D_Ads_init 9 rfl) q_74 (ltK rfl) (ltK rfl) rfl rfl rfl (okV_arr _ _) (by omega) (by unfold XB; omega) f3 (ltK rfl) rfl e4 ?_
  have f4 : C4 a = (0, [.ref (a + 1), .ref (a + 2), .null, .null, .null, .null, .null, .int 0]) := by rw [e4]; exact updC_eq
  refine g_aloadn (pc := 20) (i0 := 0) (j := 0) (dK D_Ads_init 10 rfl) rfl rfl ?_
  refine vg_bipush' (pc := 21) (dK D_Ads_init 11 rfl) rfl ?_
  obtain ⟨C5, e5⟩ : ∃ D : Nat → PC, D = updC C4 (a + 3) (100, List.replicate 40 (.int 0)) := ⟨_, rfl⟩
  refine c_newarr_int (pc := 23) (M := 40) (N1 := (a + 4)) (dK D_Ads_init 12 rfl) rfl (leK rfl) (leK rfl) (by unfold XB; omega) rfl e5 ?_
  have f5 : C5 a = (0, [.ref (a + 1), .ref (a + 2), .null, .null, .null, .null, .null, .int 0]) := by rw [e5, updC_ne (by omega)]; exact f4
  obtain ⟨C6, e6⟩ : ∃ D : Nat → PC, D = updC C5 a (0, [.ref (a + 1), .ref (a + 2), .ref (a + 3), .null, .null, .null, .null, .int 0]) := ⟨_, rfl⟩
  refine c_putF (pc := 25) (ci := 0) (f := 2) (dK D_Ads_init 13 rfl) q_77 (ltK rfl) (ltK rfl) rfl rfl rfl (okV_arr _ _) (by omega) (by unfold XB; omega) f5 (ltK rfl) rfl e6 ?_
  have f6 : C6 a = (0, [.ref (a + 1), .ref (a + 2), .ref (a + 3), .null, .null, .null, .null, .int 0]) := by rw [e6]; exact updC_eq
  refine g_aloadn (pc := 28) (i0 := 0) (j := 0) (dK D_Ads_init 14 rfl) rfl rfl ?_
  refine vg_bipush' (pc := 29) (dK D_Ads_init 15 rfl) rfl ?_
  obtain ⟨C7, e7⟩ : ∃ D : Nat → PC, D = updC C6 (a + 4) (100, List.replicate 40 (.int 0)) := ⟨_, rfl⟩
  refine c_newarr_int (pc := 31) (M := 40) (N1 := (a + 5)) (dK D_Ads_init 16 rfl) rfl (leK rfl) (leK rfl) (by unfold XB; omega) rfl e7 ?_
  have f7 : C7 a = (0, [.ref (a + 1), .ref (a + 2), .ref (a + 3), .null, .null, .null, .null, .int 0]) := by rw [e7, updC_ne (by omega)]; exact f6
  obtain ⟨C8, e8⟩ : ∃ D : Nat → PC, D = updC C7 a (0, [.ref (a + 1), .ref (a + 2), .ref (a + 3), .ref (a + 4), .null, .null, .null, .int 0]) := ⟨_, rfl⟩
  refine c_putF (pc := 33) (ci := 0) (f := 3) (dK D_Ads_init 17 rfl) q_82 (ltK rfl) (ltK rfl) rfl rfl rfl (okV_arr _ _) (by omega) (by unfold XB; omega) f7 (ltK rfl) rfl e8 ?_
  have f8 : C8 a = (0, [.ref (a + 1), .ref (a + 2), .ref (a + 3), .ref (a + 4), .null, .null, .null, .int 0]) := by rw [e8]; exact updC_eq
  refine g_aloadn (pc := 36) (i0 := 0) (j := 0) (dK D_Ads_init 18 rfl) rfl rfl ?_
  refine vg_bipush' (pc := 37) (dK D_Ads_init 19 rfl) rfl ?_
  obtain ⟨C9, e9⟩ : ∃ D : Nat → PC, D = updC C8 (a + 5) (100, List.replicate 40 (.int 0)) := ⟨_, rfl⟩
  refine c_newarr_int (pc := 39) (M := 40) (N1 := (a + 6)) (dK D_Ads_init 20 rfl) rfl (leK rfl) (leK rfl) (by unfold XB; omega) rfl e9 ?_
  have f9 : C9 a = (0, [.ref (a + 1), .ref (a + 2), .ref (a + 3), .ref (a + 4), .null, .null, .null, .int 0]) := by rw [e9, updC_ne (by omega)]; exact f8
  obtain ⟨C10, e10⟩ : ∃ D : Nat → PC, D = updC C9 a (0, [.ref (a + 1), .ref (a + 2), .ref (a + 3), .ref (a + 4), .ref (a + 5), .null, .null, .int 0]) := ⟨_, rfl⟩
  refine c_putF (pc := 41) (ci := 0) (f := 4) (dK D_Ads_init 21 rfl) q_86 (ltK rfl) (ltK rfl) rfl rfl rfl (okV_arr _ _) (by omega) (by unfold XB; omega) f9 (ltK rfl) rfl e10 ?_
  have f10 : C10 a = (0, [.ref (a + 1), .ref (a + 2), .ref (a + 3), .ref (a + 4), .ref (a + 5), .null, .null, .int 0]) := by rw [e10]; exact updC_eq
  refine g_aloadn (pc := 44) (i0 := 0) (j := 0) (dK D_Ads_init 22 rfl) rfl rfl ?_
  refine vg_bipush' (pc := 45) (dK D_Ads_init 23 rfl) rfl ?_
  obtain ⟨C11, e11⟩ : ∃ D : Nat → PC, D = updC C10 (a + 6) (100, List.replicate 40 (.int 0)) := ⟨_, rfl⟩
  refine c_newarr_int (pc := 47) (M := 40) (N1 := (a + 7)) (dK D_Ads_init 24 rfl) rfl (leK rfl) (leK rfl) (by unfold XB; omega) rfl e11 ?_
  have f11 : C11 a = (0, [.ref (a + 1), .ref (a + 2), .ref (a + 3), .ref (a + 4), .ref (a + 5), .null, .null, .int 0]) := by rw [e11, updC_ne (by omega)]; exact f10
  obtain ⟨C12, e12⟩ : ∃ D : Nat → PC, D = updC C11 a (0, [.ref (a + 1), .ref (a + 2), .ref (a + 3), .ref (a + 4), .ref (a + 5), .ref (a + 6), .null, .int 0]) := ⟨_, rfl⟩
  refine c_putF (pc := 49) (ci := 0) (f := 5) (dK D_Ads_init 25 rfl) q_90 (ltK rfl) (ltK rfl) rfl rfl rfl (okV_arr _ _) (by omega) (by unfold XB; omega) f11 (ltK rfl) rfl e12 ?_
  have f12 : C12 a = (0, [.ref (a + 1), .ref (a + 2), .ref (a + 3), .ref (a + 4), .ref (a + 5), .ref (a + 6), .null, .int 0]) := by rw [e12]; exact updC_eq
  refine g_aloadn (pc := 52) (i0 := 0) (j := 0) (dK D_Ads_init 26 rfl) rfl rfl ?_
  refine vg_bipush' (pc := 53) (dK D_Ads_init 27 rfl) rfl ?_
  obtain ⟨C13, e13⟩ : ∃ D : Nat → PC, D = updC C12 (a + 7) (100, List.replicate 40 (.int 0)) := ⟨_, rfl⟩
  refine c_newarr_int (pc := 55) (M := 40) (N1 := (a + 8)) (dK D_Ads_init 28 rfl) rfl (leK rfl) (leK rfl) (by unfold XB; omega) rfl e13 ?_
  have f13 : C13 a = (0, [.ref (a + 1), .ref (a + 2), .ref (a + 3), .ref (a + 4), .ref (a + 5), .ref (a + 6), .null, .int 0]) := by rw [e13, updC_ne (by omega)]; exact f12
  obtain ⟨C14, e14⟩ : ∃ D : Nat → PC, D = updC C13 a (0, [.ref (a + 1), .ref (a + 2), .ref (a + 3), .ref (a + 4), .ref (a + 5), .ref (a + 6), .ref (a + 7), .int 0]) := ⟨_, rfl⟩
  refine c_putF (pc := 57) (ci := 0) (f := 6) (dK D_Ads_init 29 rfl) q_94 (ltK rfl) (ltK rfl) rfl rfl rfl (okV_arr _ _) (by omega) (by unfold XB; omega) f13 (ltK rfl) rfl e14 ?_
  have f14 : C14 a = (0, [.ref (a + 1), .ref (a + 2), .ref (a + 3), .ref (a + 4), .ref (a + 5), .ref (a + 6), .ref (a + 7), .int 0]) := by rw [e14]; exact updC_eq
  exact g_return (pc := 60) (dK D_Ads_init 30 rfl) rfl (leK rfl) (leK rfl) (fun _ => rfl) ⟨rfl, C14, rfl, fun x hx => ((congrFun e14 _).trans (updC_ne (by omega))).trans (((congrFun e13 _).trans (updC_ne (by omega))).trans (((congrFun e12 _).trans (updC_ne (by omega))).trans (((congrFun e11 _).trans (updC_ne (by omega))).trans (((congrFun e10 _).trans (updC_ne (by omega))).trans (((congrFun e9 _).trans (updC_ne (by omega))).trans (((congrFun e8 _).trans (updC_ne (by omega))).trans (((congrFun e7 _).trans (updC_ne (by omega))).trans (((congrFun e6 _).trans (updC_ne (by omega))).trans (((congrFun e5 _).trans (updC_ne (by omega))).trans (((congrFun e4 _).trans (updC_ne (by omega))).trans (((congrFun e3 _).trans (updC_ne (by omega))).trans (((congrFun e2 _).trans (updC_ne (by omega))).trans (((congrFun e1 _).trans (updC_ne (by omega))).trans (rfl)))))))))))))), ⟨f14, ⟨((congrFun e14 _).trans (updC_ne (by omega))).trans (((congrFun e13 _).trans (updC_ne (by omega))).trans (((congrFun e12 _).trans (updC_ne (by omega))).trans (((congrFun e11 _).trans (updC_ne (by omega))).trans (((congrFun e10 _).trans (updC_ne (by omega))).trans (((congrFun e9 _).trans (updC_ne (by omega))).trans (((congrFun e8 _).trans (updC_ne (by omega))).trans (((congrFun e7 _).trans (updC_ne (by omega))).trans (((congrFun e6 _).trans (updC_ne (by omega))).trans (((congrFun e5 _).trans (updC_ne (by omega))).trans (((congrFun e4 _).trans (updC_ne (by omega))).trans (((congrFun e3 _).trans (updC_ne (by omega))).trans (((congrFun e2 _).trans (updC_ne (by omega))).trans ((congrFun e1 _).trans updC_eq))))))))))))), ⟨((congrFun e14 _).trans (updC_ne (by omega))).trans (((congrFun e13 _).trans (updC_ne (by omega))).trans (((congrFun e12 _).trans (updC_ne (by omega))).trans (((congrFun e11 _).trans (updC_ne (by omega))).trans (((congrFun e10 _).trans (updC_ne (by omega))).trans (((congrFun e9 _).trans (updC_ne (by omega))).trans (((congrFun e8 _).trans (updC_ne (by omega))).trans (((congrFun e7 _).trans (updC_ne (by omega))).trans (((congrFun e6 _).trans (updC_ne (by omega))).trans (((congrFun e5 _).trans (updC_ne (by omega))).trans (((congrFun e4 _).trans (updC_ne (by omega))).trans ((congrFun e3 _).trans updC_eq))))))))))), ⟨((congrFun e14 _).trans (updC_ne (by omega))).trans (((congrFun e13 _).trans (updC_ne (by omega))).trans (((congrFun e12 _).trans (updC_ne (by omega))).trans (((congrFun e11 _).trans (updC_ne (by omega))).trans (((congrFun e10 _).trans (updC_ne (by omega))).trans (((congrFun e9 _).trans (updC_ne (by omega))).trans (((congrFun e8 _).trans (updC_ne (by omega))).trans (((congrFun e7 _).trans (updC_ne (by omega))).trans (((congrFun e6 _).trans (updC_ne (by omega))).trans ((congrFun e5 _).trans updC_eq))))))))), ⟨((congrFun e14 _).trans (updC_ne (by omega))).trans (((congrFun e13 _).trans (updC_ne (by omega))).trans (((congrFun e12 _).trans (updC_ne (by omega))).trans (((congrFun e11 _).trans (updC_ne (by omega))).trans (((congrFun e10 _).trans (updC_ne (by omega))).trans (((congrFun e9 _).trans (updC_ne (by omega))).trans (((congrFun e8 _).trans (updC_ne (by omega))).trans ((congrFun e7 _).trans updC_eq))))))), ⟨((congrFun e14 _).trans (updC_ne (by omega))).trans (((congrFun e13 _).trans (updC_ne (by omega))).trans (((congrFun e12 _).trans (updC_ne (by omega))).trans (((congrFun e11 _).trans (updC_ne (by omega))).trans (((congrFun e10 _).trans (updC_ne (by omega))).trans ((congrFun e9 _).trans updC_eq))))), ⟨((congrFun e14 _).trans (updC_ne (by omega))).trans (((congrFun e13 _).trans (updC_ne (by omega))).trans (((congrFun e12 _).trans (updC_ne (by omega))).trans ((congrFun e11 _).trans updC_eq))), ⟨((congrFun e14 _).trans (updC_ne (by omega))).trans ((congrFun e13 _).trans updC_eq), trivial⟩⟩⟩⟩⟩⟩⟩⟩⟩
def Stories_l (a : Nat) : List PC := (9, [.ref (a + 1), .ref (a + 2), .ref (a + 3), .ref (a + 4), .ref (a + 5), .int 0]) :: ((100, List.replicate 10 (.int 0)) :: ((100, List.replicate 10 (.int 0)) :: ((100, List.replicate 10 (.int 0)) :: ((100, List.replicate 10 (.int 0)) :: ((100, List.replicate 10 (.int 0)) :: ([]))))))
theorem ct_Stories {E : EV} {C : Nat → PC} {a : Nat} (hx : a + 6 < 2000) (h0 : C a = (9, dfl 9)) : Ev E M_Stories_init [.ref a] (wdC (a + 1) C, true) 5 50 (Post a C (Stories_l a)) := by
  refine Ev.of pn_Stories rfl (leK rfl) ?_
  show Go E M_Stories_init 5 50 0 [(0, .ref a)] [] (wdC (a + 1) C, true) 0 0 (Post a C (Stories_l a))
  have h0 : C a = (9, [.null, .null, .null, .null, .null, .int 0]) := h0
  refine g_aloadn (pc := 0) (i0 := 0) (j := 0) (dK D_Stories_init 0 rfl) rfl rfl ?_
  refine g_objinit (pc := 1) (dK D_Stories_init 1 rfl) q_126 (leK rfl) (leK rfl) (leK rfl) ?_
  refine g_aloadn (pc := 4) (i0 := 0) (j := 0) (dK D_Stories_init 2 rfl) rfl rfl ?_
  refine vg_bipush' (pc := 5) (dK D_Stories_init 3 rfl) rfl ?_
  obtain ⟨C1, e1⟩ : ∃ D : Nat → PC, D = updC C (a + 1) (100, List.replicate 10 (.int 0)) := ⟨_, rfl⟩
  refine c_newarr_int (pc := 7) (M := 10) (N1 := (a + 2)) (dK D_Stories_init 4 rfl) rfl (leK rfl) (leK rfl) (by unfold XB; omega) rfl e1 ?_
  have f1 : C1 a = (9, [.null, .null, .null, .null, .null, .int 0]) := by rw [e1, updC_ne (by omega)]; exact h0
  obtain ⟨C2, e2⟩ : ∃ D : Nat → PC, D = updC C1 a (9, [.ref (a + 1), .null, .null, .null, .null, .int 0]) := ⟨_, rfl⟩
  refine c_putF (pc := 9) (ci := 9) (f := 0) (dK D_Stories_init 5 rfl) q_127 (ltK rfl) (ltK rfl) rfl rfl rfl (okV_arr _ _) (by omega) (by unfold XB; omega) f1 (ltK rfl) rfl e2 ?_
  have f2 : C2 a = (9, [.ref (a + 1), .null, .null, .null, .null, .int 0]) := by rw [e2]; exact updC_eq
  refine g_aloadn (pc := 12) (i0 := 0) (j := 0) (dK D_Stories_init 6 rfl) rfl rfl ?_
  refine vg_bipush' (pc := 13) (dK D_Stories_init 7 rfl) rfl ?_
  obtain ⟨C3, e3⟩ : ∃ D : Nat → PC, D = updC C2 (a + 2) (100, List.replicate 10 (.int 0)) := ⟨_, rfl⟩
  refine c_newarr_int (pc := 15) (M := 10) (N1 := (a + 3)) (dK D_Stories_init 8 rfl) rfl (leK rfl) (leK rfl) (by unfold XB; omega) rfl e3 ?_
  have f3 : C3 a = (9, [.ref (a + 1), .null, .null, .null, .null, .int 0]) := by rw [e3, updC_ne (by omega)]; exact f2
  obtain ⟨C4, e4⟩ : ∃ D : Nat → PC, D = updC C3 a (9, [.ref (a + 1), .ref (a + 2), .null, .null, .null, .int 0]) := ⟨_, rfl⟩
  refine c_putF (pc := 17) (ci := 9) (f := 1) (dK D_Stories_init 9 rfl) q_131 (ltK rfl) (ltK rfl) rfl rfl rfl (okV_arr _ _) (by omega) (by unfold XB; omega) f3 (ltK rfl) rfl e4 ?_
  have f4 : C4 a = (9, [.ref (a + 1), .ref (a + 2), .null, .null, .null, .int 0]) := by rw [e4]; exact updC_eq
  refine g_aloadn (pc := 20) (i0 := 0) (j := 0) (dK D_Stories_init 10 rfl) rfl rfl ?_
  refine vg_bipush' (pc := 21) (dK D_Stories_init 11 rfl) rfl ?_
  obtain ⟨C5, e5⟩ : ∃ D : Nat → PC, D = updC C4 (a + 3) (100, List.replicate 10 (.int 0)) := ⟨_, rfl⟩
  refine c_newarr_int (pc := 23) (M := 10) (N1 := (a + 4)) (dK D_Stories_init 12 rfl) rfl (leK rfl) (leK rfl) (by unfold XB; omega) rfl e5 ?_
  have f5 : C5 a = (9, [.ref (a + 1), .ref (a + 2), .null, .null, .null, .int 0]) := by rw [e5, updC_ne (by omega)]; exact f4
  obtain ⟨C6, e6⟩ : ∃ D : Nat → PC, D = updC C5 a (9, [.ref (a + 1), .ref (a + 2), .ref (a + 3), .null, .null, .int 0]) := ⟨_, rfl⟩
  refine c_putF (pc := 25) (ci := 9) (f := 2) (dK D_Stories_init 13 rfl) q_135 (ltK rfl) (ltK rfl) rfl rfl rfl (okV_arr _ _) (by omega) (by unfold XB; omega) f5 (ltK rfl) rfl e6 ?_
  have f6 : C6 a = (9, [.ref (a + 1), .ref (a + 2), .ref (a + 3), .null, .null, .int 0]) := by rw [e6]; exact updC_eq
  refine g_aloadn (pc := 28) (i0 := 0) (j := 0) (dK D_Stories_init 14 rfl) rfl rfl ?_
  refine vg_bipush' (pc := 29) (dK D_Stories_init 15 rfl) rfl ?_
  obtain ⟨C7, e7⟩ : ∃ D : Nat → PC, D = updC C6 (a + 4) (100, List.replicate 10 (.int 0)) := ⟨_, rfl⟩
  refine c_newarr_int (pc := 31) (M := 10) (N1 := (a + 5)) (dK D_Stories_init 16 rfl) rfl (leK rfl) (leK rfl) (by unfold XB; omega) rfl e7 ?_
  have f7 : C7 a = (9, [.ref (a + 1), .ref (a + 2), .ref (a + 3), .null, .null, .int 0]) := by rw [e7, updC_ne (by omega)]; exact f6
  obtain ⟨C8, e8⟩ : ∃ D : Nat → PC, D = updC C7 a (9, [.ref (a + 1), .ref (a + 2), .ref (a + 3), .ref (a + 4), .null, .int 0]) := ⟨_, rfl⟩
  refine c_putF (pc := 33) (ci := 9) (f := 3) (dK D_Stories_init 17 rfl) q_138 (ltK rfl) (ltK rfl) rfl rfl rfl (okV_arr _ _) (by omega) (by unfold XB; omega) f7 (ltK rfl) rfl e8 ?_
  have f8 : C8 a = (9, [.ref (a + 1), .ref (a + 2), .ref (a + 3), .ref (a + 4), .null, .int 0]) := by rw [e8]; exact updC_eq
  refine g_aloadn (pc := 36) (i0 := 0) (j := 0) (dK D_Stories_init 18 rfl) rfl rfl ?_
  refine vg_bipush' (pc := 37) (dK D_Stories_init 19 rfl) rfl ?_
  obtain ⟨C9, e9⟩ : ∃ D : Nat → PC, D = updC C8 (a + 5) (100, List.replicate 10 (.int 0)) := ⟨_, rfl⟩
  refine c_newarr_int (pc := 39) (M := 10) (N1 := (a + 6)) (dK D_Stories_init 20 rfl) rfl (leK rfl) (leK rfl) (by unfold XB; omega) rfl e9 ?_
  have f9 : C9 a = (9, [.ref (a + 1), .ref (a + 2), .ref (a + 3), .ref (a + 4), .null, .int 0]) := by rw [e9, updC_ne (by omega)]; exact f8
  obtain ⟨C10, e10⟩ : ∃ D : Nat → PC, D = updC C9 a (9, [.ref (a + 1), .ref (a + 2), .ref (a + 3), .ref (a + 4), .ref (a + 5), .int 0]) := ⟨_, rfl⟩
  refine c_putF (pc := 41) (ci := 9) (f := 4) (dK D_Stories_init 21 rfl) q_142 (ltK rfl) (ltK rfl) rfl rfl rfl (okV_arr _ _) (by omega) (by unfold XB; omega) f9 (ltK rfl) rfl e10 ?_
  have f10 : C10 a = (9, [.ref (a + 1), .ref (a + 2), .ref (a + 3), .ref (a + 4), .ref (a + 5), .int 0]) := by rw [e10]; exact updC_eq
  exact g_return (pc := 44) (dK D_Stories_init 22 rfl) rfl (leK rfl) (leK rfl) (fun _ => rfl) ⟨rfl, C10, rfl, fun x hx => ((congrFun e10 _).trans (updC_ne (by omega))).trans (((congrFun e9 _).trans (updC_ne (by omega))).trans (((congrFun e8 _).trans (updC_ne (by omega))).trans (((congrFun e7 _).trans (updC_ne (by omega))).trans (((congrFun e6 _).trans (updC_ne (by omega))).trans (((congrFun e5 _).trans (updC_ne (by omega))).trans (((congrFun e4 _).trans (updC_ne (by omega))).trans (((congrFun e3 _).trans (updC_ne (by omega))).trans (((congrFun e2 _).trans (updC_ne (by omega))).trans (((congrFun e1 _).trans (updC_ne (by omega))).trans (rfl)))))))))), ⟨f10, ⟨((congrFun e10 _).trans (updC_ne (by omega))).trans (((congrFun e9 _).trans (updC_ne (by omega))).trans (((congrFun e8 _).trans (updC_ne (by omega))).trans (((congrFun e7 _).trans (updC_ne (by omega))).trans (((congrFun e6 _).trans (updC_ne (by omega))).trans (((congrFun e5 _).trans (updC_ne (by omega))).trans (((congrFun e4 _).trans (updC_ne (by omega))).trans (((congrFun e3 _).trans (updC_ne (by omega))).trans (((congrFun e2 _).trans (updC_ne (by omega))).trans ((congrFun e1 _).trans updC_eq))))))))), ⟨((congrFun e10 _).trans (updC_ne (by omega))).trans (((congrFun e9 _).trans (updC_ne (by omega))).trans (((congrFun e8 _).trans (updC_ne (by omega))).trans (((congrFun e7 _).trans (updC_ne (by omega))).trans (((congrFun e6 _).trans (updC_ne (by omega))).trans (((congrFun e5 _).trans (updC_ne (by omega))).trans (((congrFun e4 _).trans (updC_ne (by omega))).trans ((congrFun e3 _).trans updC_eq))))))), ⟨((congrFun e10 _).trans (updC_ne (by omega))).trans (((congrFun e9 _).trans (updC_ne (by omega))).trans (((congrFun e8 _).trans (updC_ne (by omega))).trans (((congrFun e7 _).trans (updC_ne (by omega))).trans (((congrFun e6 _).trans (updC_ne (by omega))).trans ((congrFun e5 _).trans updC_eq))))), ⟨((congrFun e10 _).trans (updC_ne (by omega))).trans (((congrFun e9 _).trans (updC_ne (by omega))).trans (((congrFun e8 _).trans (updC_ne (by omega))).trans ((congrFun e7 _).trans updC_eq))), ⟨((congrFun e10 _).trans (updC_ne (by omega))).trans ((congrFun e9 _).trans updC_eq), trivial⟩⟩⟩⟩⟩⟩⟩
def Standbys_l (a : Nat) : List PC := (7, [.ref (a + 1), .ref (a + 2), .int 0]) :: ((100, List.replicate 8 (.int 0)) :: ((100, List.replicate 8 (.int 0)) :: ([])))
theorem ct_Standbys {E : EV} {C : Nat → PC} {a : Nat} (hx : a + 3 < 2000) (h0 : C a = (7, dfl 7)) : Ev E M_Standbys_init [.ref a] (wdC (a + 1) C, true) 2 16 (Post a C (Standbys_l a)) := by
  refine Ev.of pn_Standbys rfl (leK rfl) ?_
  show Go E M_Standbys_init 2 16 0 [(0, .ref a)] [] (wdC (a + 1) C, true) 0 0 (Post a C (Standbys_l a))
  have h0 : C a = (7, [.null, .null, .int 0]) := h0
  refine g_aloadn (pc := 0) (i0 := 0) (j := 0) (dK D_Standbys_init 0 rfl) rfl rfl ?_
  refine g_objinit (pc := 1) (dK D_Standbys_init 1 rfl) q_170 (leK rfl) (leK rfl) (leK rfl) ?_
  refine g_aloadn (pc := 4) (i0 := 0) (j := 0) (dK D_Standbys_init 2 rfl) rfl rfl ?_
  refine vg_bipush' (pc := 5) (dK D_Standbys_init 3 rfl) rfl ?_
  obtain ⟨C1, e1⟩ : ∃ D : Nat → PC, D = updC C (a + 1) (100, List.replicate 8 (.int 0)) := ⟨_, rfl⟩
  refine c_newarr_int (pc := 7) (M := 8) (N1 := (a + 2)) (dK D_Standbys_init 4 rfl) rfl (leK rfl) (leK rfl) (by unfold XB; omega) rfl e1 ?_
  have f1 : C1 a = (7, [.null, .null, .int 0]) := by rw [e1, updC_ne (by omega)]; exact h0
  obtain ⟨C2, e2⟩ : ∃ D : Nat → PC, D = updC C1 a (7, [.ref (a + 1), .null, .int 0]) := ⟨_, rfl⟩
  refine c_putF (pc := 9) (ci := 7) (f := 0) (dK D_Standbys_init 5 rfl) q_171 (ltK rfl) (ltK rfl) rfl rfl rfl (okV_arr _ _) (by omega) (by unfold XB; omega) f1 (ltK rfl) rfl e2 ?_
  have f2 : C2 a = (7, [.ref (a + 1), .null, .int 0]) := by rw [e2]; exact updC_eq
  refine g_aloadn (pc := 12) (i0 := 0) (j := 0) (dK D_Standbys_init 6 rfl) rfl rfl ?_
  refine vg_bipush' (pc := 13) (dK D_Standbys_init 7 rfl) rfl ?_
  obtain ⟨C3, e3⟩ : ∃ D : Nat → PC, D = updC C2 (a + 2) (100, List.replicate 8 (.int 0)) := ⟨_, rfl⟩
  refine c_newarr_int (pc := 15) (M := 8) (N1 := (a + 3)) (dK D_Standbys_init 8 rfl) rfl (leK rfl) (leK rfl) (by unfold XB; omega) rfl e3 ?_
  have f3 : C3 a = (7, [.ref (a + 1), .null, .int 0]) := by rw [e3, updC_ne (by omega)]; exact f2
  obtain ⟨C4, e4⟩ : ∃ D : Nat → PC, D = updC C3 a (7, [.ref (a + 1), .ref (a + 2), .int 0]) := ⟨_, rfl⟩
  refine c_putF (pc := 17) (ci := 7) (f := 1) (dK D_Standbys_init 9 rfl) q_174 (ltK rfl) (ltK rfl) rfl rfl rfl (okV_arr _ _) (by omega) (by unfold XB; omega) f3 (ltK rfl) rfl e4 ?_
  have f4 : C4 a = (7, [.ref (a + 1), .ref (a + 2), .int 0]) := by rw [e4]; exact updC_eq
  exact g_return (pc := 20) (dK D_Standbys_init 10 rfl) rfl (leK rfl) (leK rfl) (fun _ => rfl) ⟨rfl, C4, rfl, fun x hx => ((congrFun e4 _).trans (updC_ne (by omega))).trans (((congrFun e3 _).trans (updC_ne (by omega))).trans (((congrFun e2 _).trans (updC_ne (by omega))).trans (((congrFun e1 _).trans (updC_ne (by omega))).trans (rfl)))), ⟨f4, ⟨((congrFun e4 _).trans (updC_ne (by omega))).trans (((congrFun e3 _).trans (updC_ne (by omega))).trans (((congrFun e2 _).trans (updC_ne (by omega))).trans ((congrFun e1 _).trans updC_eq))), ⟨((congrFun e4 _).trans (updC_ne (by omega))).trans ((congrFun e3 _).trans updC_eq), trivial⟩⟩⟩⟩
def Forms_l (a : Nat) : List PC := (2, [.ref (a + 1), .ref (a + 2), .ref (a + 3)]) :: ((100, List.replicate 8 (.int 0)) :: ((100, List.replicate 8 (.int 0)) :: ((100, List.replicate 8 (.int 0)) :: ([]))))
theorem ct_Forms {E : EV} {C : Nat → PC} {a : Nat} (hx : a + 4 < 2000) (h0 : C a = (2, dfl 2)) : Ev E M_Forms_init [.ref a] (wdC (a + 1) C, true) 3 24 (Post a C (Forms_l a)) := by
  refine Ev.of pn_Forms rfl (leK rfl) ?_
  show Go E M_Forms_init 3 24 0 [(0, .ref a)] [] (wdC (a + 1) C, true) 0 0 (Post a C (Forms_l a))
  have h0 : C a = (2, [.null, .null, .null]) := h0
  refine g_aloadn (pc := 0) (i0 := 0) (j := 0) (dK D_Forms_init 0 rfl) rfl rfl ?_
  refine g_objinit (pc := 1) (dK D_Forms_init 1 rfl) q_193 (leK rfl) (leK rfl) (leK rfl) ?_
  refine g_aloadn (pc := 4) (i0 := 0) (j := 0) (dK D_Forms_init 2 rfl) rfl rfl ?_
  refine vg_bipush' (pc := 5) (dK D_Forms_init 3 rfl) rfl ?_
  obtain ⟨C1, e1⟩ : ∃ D : Nat → PC, D = updC C (a + 1) (100, List.replicate 8 (.int 0)) := ⟨_, rfl⟩
  refine c_newarr_int (pc := 7) (M := 8) (N1 := (a + 2)) (dK D_Forms_init 4 rfl) rfl (leK rfl) (leK rfl) (by unfold XB; omega) rfl e1 ?_
  have f1 : C1 a = (2, [.null, .null, .null]) := by rw [e1, updC_ne (by omega)]; exact h0
  obtain ⟨C2, e2⟩ : ∃ D : Nat → PC, D = updC C1 a (2, [.ref (a + 1), .null, .null]) := ⟨_, rfl⟩
  refine c_putF (pc := 9) (ci := 2) (f := 0) (dK D_Forms_init 5 rfl) q_194 (ltK rfl) (ltK rfl) rfl rfl rfl (okV_arr _ _) (by omega) (by unfold XB; omega) f1 (ltK rfl) rfl e2 ?_
  have f2 : C2 a = (2, [.ref (a + 1), .null, .null]) := by rw [e2]; exact updC_eq
  refine g_aloadn (pc := 12) (i0 := 0) (j := 0) (dK D_Forms_init 6 rfl) rfl rfl ?_
  refine vg_bipush' (pc := 13) (dK D_Forms_init 7 rfl) rfl ?_
  obtain ⟨C3, e3⟩ : ∃ D : Nat → PC, D = updC C2 (a + 2) (100, List.replicate 8 (.int 0)) := ⟨_, rfl⟩
  refine c_newarr_int (pc := 15) (M := 8) (N1 := (a + 3)) (dK D_Forms_init 8 rfl) rfl (leK rfl) (leK rfl) (by unfold XB; omega) rfl e3 ?_
  have f3 : C3 a = (2, [.ref (a + 1), .null, .null]) := by rw [e3, updC_ne (by omega)]; exact f2
  obtain ⟨C4, e4⟩ : ∃ D : Nat → PC, D = updC C3 a (2, [.ref (a + 1), .ref (a + 2), .null]) := ⟨_, rfl⟩
  refine c_putF (pc := 17) (ci := 2) (f := 1) (dK D_Forms_init 9 rfl) q_199 (ltK rfl) (ltK rfl) rfl rfl rfl (okV_arr _ _) (by omega) (by unfold XB; omega) f3 (ltK rfl) rfl e4 ?_
  have f4 : C4 a = (2, [.ref (a + 1), .ref (a + 2), .null]) := by rw [e4]; exact updC_eq
  refine g_aloadn (pc := 20) (i0 := 0) (j := 0) (dK D_Forms_init 10 rfl) rfl rfl ?_
  refine vg_bipush' (pc := 21) (dK D_Forms_init 11 rfl) rfl ?_
  obtain ⟨C5, e5⟩ : ∃ D : Nat → PC, D = updC C4 (a + 3) (100, List.replicate 8 (.int 0)) := ⟨_, rfl⟩
  refine c_newarr_int (pc := 23) (M := 8) (N1 := (a + 4)) (dK D_Forms_init 12 rfl) rfl (leK rfl) (leK rfl) (by unfold XB; omega) rfl e5 ?_
  have f5 : C5 a = (2, [.ref (a + 1), .ref (a + 2), .null]) := by rw [e5, updC_ne (by omega)]; exact f4
  obtain ⟨C6, e6⟩ : ∃ D : Nat → PC, D = updC C5 a (2, [.ref (a + 1), .ref (a + 2), .ref (a + 3)]) := ⟨_, rfl⟩
  refine c_putF (pc := 25) (ci := 2) (f := 2) (dK D_Forms_init 13 rfl) q_203 (ltK rfl) (ltK rfl) rfl rfl rfl (okV_arr _ _) (by omega) (by unfold XB; omega) f5 (ltK rfl) rfl e6 ?_
  have f6 : C6 a = (2, [.ref (a + 1), .ref (a + 2), .ref (a + 3)]) := by rw [e6]; exact updC_eq
  exact g_return (pc := 28) (dK D_Forms_init 14 rfl) rfl (leK rfl) (leK rfl) (fun _ => rfl) ⟨rfl, C6, rfl, fun x hx => ((congrFun e6 _).trans (updC_ne (by omega))).trans (((congrFun e5 _).trans (updC_ne (by omega))).trans (((congrFun e4 _).trans (updC_ne (by omega))).trans (((congrFun e3 _).trans (updC_ne (by omega))).trans (((congrFun e2 _).trans (updC_ne (by omega))).trans (((congrFun e1 _).trans (updC_ne (by omega))).trans (rfl)))))), ⟨f6, ⟨((congrFun e6 _).trans (updC_ne (by omega))).trans (((congrFun e5 _).trans (updC_ne (by omega))).trans (((congrFun e4 _).trans (updC_ne (by omega))).trans (((congrFun e3 _).trans (updC_ne (by omega))).trans (((congrFun e2 _).trans (updC_ne (by omega))).trans ((congrFun e1 _).trans updC_eq))))), ⟨((congrFun e6 _).trans (updC_ne (by omega))).trans (((congrFun e5 _).trans (updC_ne (by omega))).trans (((congrFun e4 _).trans (updC_ne (by omega))).trans ((congrFun e3 _).trans updC_eq))), ⟨((congrFun e6 _).trans (updC_ne (by omega))).trans ((congrFun e5 _).trans updC_eq), trivial⟩⟩⟩⟩⟩
def State_l (a : Nat) : List PC := (8, [.ref (a + 1), .ref (a + 9), .ref (a + 15), .ref (a + 18), .int 0, .int 0, .int 0, .int 0]) :: ((Ads_l (a + 1)) ++ ((Stories_l (a + 9)) ++ ((Standbys_l (a + 15)) ++ ((Forms_l (a + 18)) ++ ([])))))
theorem ct_State {E : EV} {C : Nat → PC} {a : Nat} (hx : a + 22 < 2000) (h0 : C a = (8, dfl 8)) : Ev E M_State_init [.ref a] (wdC (a + 1) C, true) 21 390 (Post a C (State_l a)) := by
  refine Ev.of pn_State rfl (leK rfl) ?_
  show Go E M_State_init 21 390 0 [(0, .ref a)] [] (wdC (a + 1) C, true) 0 0 (Post a C (State_l a))
  have h0 : C a = (8, [.null, .null, .null, .null, .int 0, .int 0, .int 0, .int 0]) := h0
  refine g_aloadn (pc := 0) (i0 := 0) (j := 0) (dK D_State_init 0 rfl) rfl rfl ?_
  refine g_objinit (pc := 1) (dK D_State_init 1 rfl) q_63 (leK rfl) (leK rfl) (leK rfl) ?_
  refine g_aloadn (pc := 4) (i0 := 0) (j := 0) (dK D_State_init 2 rfl) rfl rfl ?_
  obtain ⟨C1, e1⟩ : ∃ D : Nat → PC, D = updC C (a + 1) (0, dfl 0) := ⟨_, rfl⟩
  refine c_new (pc := 5) (ci := 0) (N1 := (a + 2)) (dK D_State_init 3 rfl) (ltK rfl) q_64 q_65 q_5 (leK rfl) (leK rfl) (by unfold XB; omega) rfl e1 ?_
  have f1 : C1 a = (8, [.null, .null, .null, .null, .int 0, .int 0, .int 0, .int 0]) := by rw [e1, updC_ne (by omega)]; exact h0
  refine g_dup (pc := 8) (dK D_State_init 4 rfl) rfl ?_
  refine c_callIN (pc := 9) (As := []) (rest := [.ref (a + 1), .ref a]) (mc' := 7) (ms' := 280) (dK D_State_init 5 rfl) K_State_9 (fitK rfl) rfl (leK rfl) (leK rfl) (leK rfl) (ct_Ads (C := C1) (a := a + 1) (by omega) ((congrFun e1 _).trans updC_eq)) (postI (fun C2 p2 b2 => ?_))
  have f2 : C2 a = (8, [.null, .null, .null, .null, .int 0, .int 0, .int 0, .int 0]) := by rw [p2 a (by omega)]; exact f1
  show Go E M_State_init 21 390 12 [(0, .ref a)] [.ref (a + 1), .ref a] (wdC (a + 9) C2, true) _ _ _
  obtain ⟨C3, e3⟩ : ∃ D : Nat → PC, D = updC C2 a (8, [.ref (a + 1), .null, .null, .null, .int 0, .int 0, .int 0, .int 0]) := ⟨_, rfl⟩
  refine c_putF (pc := 12) (ci := 8) (f := 0) (dK D_State_init 6 rfl) q_214 (ltK rfl) (ltK rfl) rfl rfl rfl (okV_obj _ _) (by omega) (by unfold XB; omega) f2 (ltK rfl) rfl e3 ?_
  have f3 : C3 a = (8, [.ref (a + 1), .null, .null, .null, .int 0, .int 0, .int 0, .int 0]) := by rw [e3]; exact updC_eq
  refine g_aloadn (pc := 15) (i0 := 0) (j := 0) (dK D_State_init 7 rfl) rfl rfl ?_
  obtain ⟨C4, e4⟩ : ∃ D : Nat → PC, D = updC C3 (a + 9) (9, dfl 9) := ⟨_, rfl⟩
  refine c_new (pc := 16) (ci := 9) (N1 := (a + 10)) (dK D_State_init 8 rfl) (ltK rfl) q_121 q_122 q_6 (leK rfl) (leK rfl) (by unfold XB; omega) rfl e4 ?_
  have f4 : C4 a = (8, [.ref (a + 1), .null, .null, .null, .int 0, .int 0, .int 0, .int 0]) := by rw [e4, updC_ne (by omega)]; exact f3
  refine g_dup (pc := 19) (dK D_State_init 9 rfl) rfl ?_
  refine c_callIN (pc := 20) (As := []) (rest := [.ref (a + 9), .ref a]) (mc' := 5) (ms' := 50) (dK D_State_init 10 rfl) K_State_18 (fitK rfl) rfl (leK rfl) (leK rfl) (leK rfl) (ct_Stories (C := C4) (a := a + 9) (by omega) ((congrFun e4 _).trans updC_eq)) (postI (fun C5 p5 b5 => ?_))
  have f5 : C5 a = (8, [.ref (a + 1), .null, .null, .null, .int 0, .int 0, .int 0, .int 0]) := by rw [p5 a (by omega)]; exact f4
  show Go E M_State_init 21 390 23 [(0, .ref a)] [.ref (a + 9), .ref a] (wdC (a + 15) C5, true) _ _ _
  obtain ⟨C6, e6⟩ : ∃ D : Nat → PC, D = updC C5 a (8, [.ref (a + 1), .ref (a + 9), .null, .null, .int 0, .int 0, .int 0, .int 0]) := ⟨_, rfl⟩
  refine c_putF (pc := 23) (ci := 8) (f := 1) (dK D_State_init 11 rfl) q_219 (ltK rfl) (ltK rfl) rfl rfl rfl (okV_obj _ _) (by omega) (by unfold XB; omega) f5 (ltK rfl) rfl e6 ?_
  have f6 : C6 a = (8, [.ref (a + 1), .ref (a + 9), .null, .null, .int 0, .int 0, .int 0, .int 0]) := by rw [e6]; exact updC_eq
  refine g_aloadn (pc := 26) (i0 := 0) (j := 0) (dK D_State_init 12 rfl) rfl rfl ?_
  obtain ⟨C7, e7⟩ : ∃ D : Nat → PC, D = updC C6 (a + 15) (7, dfl 7) := ⟨_, rfl⟩
  refine c_new (pc := 27) (ci := 7) (N1 := (a + 16)) (dK D_State_init 13 rfl) (ltK rfl) q_165 q_166 q_7 (leK rfl) (leK rfl) (by unfold XB; omega) rfl e7 ?_
  have f7 : C7 a = (8, [.ref (a + 1), .ref (a + 9), .null, .null, .int 0, .int 0, .int 0, .int 0]) := by rw [e7, updC_ne (by omega)]; exact f6
  refine g_dup (pc := 30) (dK D_State_init 14 rfl) rfl ?_
  refine c_callIN (pc := 31) (As := []) (rest := [.ref (a + 15), .ref a]) (mc' := 2) (ms' := 16) (dK D_State_init 15 rfl) K_State_25 (fitK rfl) rfl (leK rfl) (leK rfl) (leK rfl) (ct_Standbys (C := C7) (a := a + 15) (by omega) ((congrFun e7 _).trans updC_eq)) (postI (fun C8 p8 b8 => ?_))
  have f8 : C8 a = (8, [.ref (a + 1), .ref (a + 9), .null, .null, .int 0, .int 0, .int 0, .int 0]) := by rw [p8 a (by omega)]; exact f7
  show Go E M_State_init 21 390 34 [(0, .ref a)] [.ref (a + 15), .ref a] (wdC (a + 18) C8, true) _ _ _
  obtain ⟨C9, e9⟩ : ∃ D : Nat → PC, D = updC C8 a (8, [.ref (a + 1), .ref (a + 9), .ref (a + 15), .null, .int 0, .int 0, .int 0, .int 0]) := ⟨_, rfl⟩
  refine c_putF (pc := 34) (ci := 8) (f := 2) (dK D_State_init 16 rfl) q_224 (ltK rfl) (ltK rfl) rfl rfl rfl (okV_obj _ _) (by omega) (by unfold XB; omega) f8 (ltK rfl) rfl e9 ?_
  have f9 : C9 a = (8, [.ref (a + 1), .ref (a + 9), .ref (a + 15), .null, .int 0, .int 0, .int 0, .int 0]) := by rw [e9]; exact updC_eq
  refine g_aloadn (pc := 37) (i0 := 0) (j := 0) (dK D_State_init 17 rfl) rfl rfl ?_
  obtain ⟨C10, e10⟩ : ∃ D : Nat → PC, D = updC C9 (a + 18) (2, dfl 2) := ⟨_, rfl⟩
  refine c_new (pc := 38) (ci := 2) (N1 := (a + 19)) (dK D_State_init 18 rfl) (ltK rfl) q_188 q_189 q_8 (leK rfl) (leK rfl) (by unfold XB; omega) rfl e10 ?_
  have f10 : C10 a = (8, [.ref (a + 1), .ref (a + 9), .ref (a + 15), .null, .int 0, .int 0, .int 0, .int 0]) := by rw [e10, updC_ne (by omega)]; exact f9
  refine g_dup (pc := 41) (dK D_State_init 19 rfl) rfl ?_
  refine c_callIN (pc := 42) (As := []) (rest := [.ref (a + 18), .ref a]) (mc' := 3) (ms' := 24) (dK D_State_init 20 rfl) K_State_32 (fitK rfl) rfl (leK rfl) (leK rfl) (leK rfl) (ct_Forms (C := C10) (a := a + 18) (by omega) ((congrFun e10 _).trans updC_eq)) (postI (fun C11 p11 b11 => ?_))
  have f11 : C11 a = (8, [.ref (a + 1), .ref (a + 9), .ref (a + 15), .null, .int 0, .int 0, .int 0, .int 0]) := by rw [p11 a (by omega)]; exact f10
  show Go E M_State_init 21 390 45 [(0, .ref a)] [.ref (a + 18), .ref a] (wdC (a + 22) C11, true) _ _ _
  obtain ⟨C12, e12⟩ : ∃ D : Nat → PC, D = updC C11 a (8, [.ref (a + 1), .ref (a + 9), .ref (a + 15), .ref (a + 18), .int 0, .int 0, .int 0, .int 0]) := ⟨_, rfl⟩
  refine c_putF (pc := 45) (ci := 8) (f := 3) (dK D_State_init 21 rfl) q_228 (ltK rfl) (ltK rfl) rfl rfl rfl (okV_obj _ _) (by omega) (by unfold XB; omega) f11 (ltK rfl) rfl e12 ?_
  have f12 : C12 a = (8, [.ref (a + 1), .ref (a + 9), .ref (a + 15), .ref (a + 18), .int 0, .int 0, .int 0, .int 0]) := by rw [e12]; exact updC_eq
  exact g_return (pc := 48) (dK D_State_init 22 rfl) rfl (leK rfl) (leK rfl) (fun _ => rfl) ⟨rfl, C12, rfl, fun x hx => ((congrFun e12 _).trans (updC_ne (by omega))).trans ((p11 _ (by omega)).trans (((congrFun e10 _).trans (updC_ne (by omega))).trans (((congrFun e9 _).trans (updC_ne (by omega))).trans ((p8 _ (by omega)).trans (((congrFun e7 _).trans (updC_ne (by omega))).trans (((congrFun e6 _).trans (updC_ne (by omega))).trans ((p5 _ (by omega)).trans (((congrFun e4 _).trans (updC_ne (by omega))).trans (((congrFun e3 _).trans (updC_ne (by omega))).trans ((p2 _ (by omega)).trans (((congrFun e1 _).trans (updC_ne (by omega))).trans (rfl)))))))))))), ⟨f12, Blk.app' (n := 8) rfl (Blk.pres (fun x h1 h2 => ((congrFun e12 _).trans (updC_ne (by have h2 : x < _ + 8 := h2; omega))).trans ((p11 _ (by have h2 : x < _ + 8 := h2; omega)).trans (((congrFun e10 _).trans (updC_ne (by have h2 : x < _ + 8 := h2; omega))).trans (((congrFun e9 _).trans (updC_ne (by have h2 : x < _ + 8 := h2; omega))).trans ((p8 _ (by have h2 : x < _ + 8 := h2; omega)).trans (((congrFun e7 _).trans (updC_ne (by have h2 : x < _ + 8 := h2; omega))).trans (((congrFun e6 _).trans (updC_ne (by have h2 : x < _ + 8 := h2; omega))).trans ((p5 _ (by have h2 : x < _ + 8 := h2; omega)).trans (((congrFun e4 _).trans (updC_ne (by have h2 : x < _ + 8 := h2; omega))).trans (((congrFun e3 _).trans (updC_ne (by have h2 : x < _ + 8 := h2; omega))).trans (rfl))))))))))) b2) (Blk.app' (n := 6) rfl (Blk.pres (fun x h1 h2 => ((congrFun e12 _).trans (updC_ne (by have h2 : x < _ + 6 := h2; omega))).trans ((p11 _ (by have h2 : x < _ + 6 := h2; omega)).trans (((congrFun e10 _).trans (updC_ne (by have h2 : x < _ + 6 := h2; omega))).trans (((congrFun e9 _).trans (updC_ne (by have h2 : x < _ + 6 := h2; omega))).trans ((p8 _ (by have h2 : x < _ + 6 := h2; omega)).trans (((congrFun e7 _).trans (updC_ne (by have h2 : x < _ + 6 := h2; omega))).trans (((congrFun e6 _).trans (updC_ne (by have h2 : x < _ + 6 := h2; omega))).trans (rfl)))))))) b5) (Blk.app' (n := 3) rfl (Blk.pres (fun x h1 h2 => ((congrFun e12 _).trans (updC_ne (by have h2 : x < _ + 3 := h2; omega))).trans ((p11 _ (by have h2 : x < _ + 3 := h2; omega)).trans (((congrFun e10 _).trans (updC_ne (by have h2 : x < _ + 3 := h2; omega))).trans (((congrFun e9 _).trans (updC_ne (by have h2 : x < _ + 3 := h2; omega))).trans (rfl))))) b8) (Blk.app' (n := 4) rfl (Blk.pres (fun x h1 h2 => ((congrFun e12 _).trans (updC_ne (by have h2 : x < _ + 4 := h2; omega))).trans (rfl)) b11) (trivial))))⟩⟩
def Reader_l (a : Nat) (b : Nat) (d : Nat) : List PC := (5, [.ref b, .ref d, .ref (a + 1), .int 0, .int 0, .int 0, .int 0, V (-1)]) :: ((100, List.replicate 6 (.int 0)) :: ([]))
theorem ct_Reader {E : EV} {C : Nat → PC} {a : Nat} {b : Nat} {d : Nat} (hx : a + 2 < 2000) (h0 : C a = (5, dfl 5)) : Ev E M_Reader_init [.ref a, .ref b, .ref d] (wdC (a + 1) C, true) 1 6 (Post a C (Reader_l a b d)) := by
  refine Ev.of pn_Reader rfl (leK rfl) ?_
  show Go E M_Reader_init 1 6 0 [(0, .ref a), (1, .ref b), (2, .ref d)] [] (wdC (a + 1) C, true) 0 0 (Post a C (Reader_l a b d))
  have h0 : C a = (5, [.null, .null, .null, .int 0, .int 0, .int 0, .int 0, .int 0]) := h0
  refine g_aloadn (pc := 0) (i0 := 0) (j := 0) (dK D_Reader_init 0 rfl) rfl rfl ?_
  refine g_objinit (pc := 1) (dK D_Reader_init 1 rfl) q_326 (leK rfl) (leK rfl) (leK rfl) ?_
  refine g_aloadn (pc := 4) (i0 := 0) (j := 0) (dK D_Reader_init 2 rfl) rfl rfl ?_
  refine vg_bipush' (pc := 5) (dK D_Reader_init 3 rfl) rfl ?_
  obtain ⟨C1, e1⟩ : ∃ D : Nat → PC, D = updC C (a + 1) (100, List.replicate 6 (.int 0)) := ⟨_, rfl⟩
  refine c_newarr_int (pc := 7) (M := 6) (N1 := (a + 2)) (dK D_Reader_init 4 rfl) rfl (leK rfl) (leK rfl) (by unfold XB; omega) rfl e1 ?_
  have f1 : C1 a = (5, [.null, .null, .null, .int 0, .int 0, .int 0, .int 0, .int 0]) := by rw [e1, updC_ne (by omega)]; exact h0
  obtain ⟨C2, e2⟩ : ∃ D : Nat → PC, D = updC C1 a (5, [.null, .null, .ref (a + 1), .int 0, .int 0, .int 0, .int 0, .int 0]) := ⟨_, rfl⟩
  refine c_putF (pc := 9) (ci := 5) (f := 2) (dK D_Reader_init 5 rfl) q_329 (ltK rfl) (ltK rfl) rfl rfl rfl (okV_arr _ _) (by omega) (by unfold XB; omega) f1 (ltK rfl) rfl e2 ?_
  have f2 : C2 a = (5, [.null, .null, .ref (a + 1), .int 0, .int 0, .int 0, .int 0, .int 0]) := by rw [e2]; exact updC_eq
  refine g_aloadn (pc := 12) (i0 := 0) (j := 0) (dK D_Reader_init 6 rfl) rfl rfl ?_
  refine vg_iconst' (pc := 13) (dK D_Reader_init 7 rfl) ?_
  obtain ⟨C3, e3⟩ : ∃ D : Nat → PC, D = updC C2 a (5, [.null, .null, .ref (a + 1), .int 0, .int 0, .int 0, .int 0, V (-1)]) := ⟨_, rfl⟩
  refine c_put (pc := 14) (ci := 5) (f := 7) (dK D_Reader_init 8 rfl) q_335 (ltK rfl) (ltK rfl) rfl (okV_int _) (by omega) (by unfold XB; omega) f2 (ltK rfl) rfl e3 ?_
  have f3 : C3 a = (5, [.null, .null, .ref (a + 1), .int 0, .int 0, .int 0, .int 0, V (-1)]) := by rw [e3]; exact updC_eq
  refine g_aloadn (pc := 17) (i0 := 0) (j := 0) (dK D_Reader_init 9 rfl) rfl rfl ?_
  refine g_aloadn (pc := 18) (i0 := 1) (j := 1) (dK D_Reader_init 10 rfl) rfl rfl ?_
  obtain ⟨C4, e4⟩ : ∃ D : Nat → PC, D = updC C3 a (5, [.ref b, .null, .ref (a + 1), .int 0, .int 0, .int 0, .int 0, V (-1)]) := ⟨_, rfl⟩
  refine c_putF (pc := 19) (ci := 5) (f := 0) (dK D_Reader_init 11 rfl) q_327 (ltK rfl) (ltK rfl) rfl rfl rfl (okV_obj _ _) (by omega) (by unfold XB; omega) f3 (ltK rfl) rfl e4 ?_
  have f4 : C4 a = (5, [.ref b, .null, .ref (a + 1), .int 0, .int 0, .int 0, .int 0, V (-1)]) := by rw [e4]; exact updC_eq
  refine g_aloadn (pc := 22) (i0 := 0) (j := 0) (dK D_Reader_init 12 rfl) rfl rfl ?_
  refine g_aloadn (pc := 23) (i0 := 2) (j := 2) (dK D_Reader_init 13 rfl) rfl rfl ?_
  obtain ⟨C5, e5⟩ : ∃ D : Nat → PC, D = updC C4 a (5, [.ref b, .ref d, .ref (a + 1), .int 0, .int 0, .int 0, .int 0, V (-1)]) := ⟨_, rfl⟩
  refine c_putF (pc := 24) (ci := 5) (f := 1) (dK D_Reader_init 14 rfl) q_328 (ltK rfl) (ltK rfl) rfl rfl rfl (okV_obj _ _) (by omega) (by unfold XB; omega) f4 (ltK rfl) rfl e5 ?_
  have f5 : C5 a = (5, [.ref b, .ref d, .ref (a + 1), .int 0, .int 0, .int 0, .int 0, V (-1)]) := by rw [e5]; exact updC_eq
  exact g_return (pc := 27) (dK D_Reader_init 15 rfl) rfl (leK rfl) (leK rfl) (fun _ => rfl) ⟨rfl, C5, rfl, fun x hx => ((congrFun e5 _).trans (updC_ne (by omega))).trans (((congrFun e4 _).trans (updC_ne (by omega))).trans (((congrFun e3 _).trans (updC_ne (by omega))).trans (((congrFun e2 _).trans (updC_ne (by omega))).trans (((congrFun e1 _).trans (updC_ne (by omega))).trans (rfl))))), ⟨f5, ⟨((congrFun e5 _).trans (updC_ne (by omega))).trans (((congrFun e4 _).trans (updC_ne (by omega))).trans (((congrFun e3 _).trans (updC_ne (by omega))).trans (((congrFun e2 _).trans (updC_ne (by omega))).trans ((congrFun e1 _).trans updC_eq)))), trivial⟩⟩⟩
def Bytes_l (M a : Nat) : List PC := (1, [.ref (a + 1), .int 0]) :: [(100, List.replicate M (.int 0))]
theorem ct_Bytes {E : EV} {C : Nat → PC} {a M : Nat} (hM : Nat.ble M 16384 = true) (hx : a + 2 < 2000) (h0 : C a = (1, dfl 1)) : Ev E M_Bytes_init [.ref a, V (M : Int)] (wdC (a + 1) C, true) 1 M (Post a C (Bytes_l M a)) := by
  refine Ev.of pn_Bytes rfl (leK rfl) ?_
  show Go E M_Bytes_init 1 M 0 [(0, .ref a), (1, V (M : Int))] [] (wdC (a + 1) C, true) 0 0 (Post a C (Bytes_l M a))
  have h0 : C a = (1, [.null, .int 0]) := h0
  have hM' := Nat.le_of_ble_eq_true hM
  refine g_aloadn (pc := 0) (i0 := 0) (j := 0) (dK D_Bytes_init 0 rfl) rfl rfl ?_
  refine g_objinit (pc := 1) (dK D_Bytes_init 1 rfl) q_41 (leK rfl) (leK rfl) (leK rfl) ?_
  refine g_aloadn (pc := 4) (i0 := 0) (j := 0) (dK D_Bytes_init 2 rfl) rfl rfl ?_
  refine g_iloadn (pc := 5) (i0 := 1) (j := 1) (dK D_Bytes_init 3 rfl) rfl rfl ?_
  refine g_if_ge (pc := 6) (tgt := 13) (dK D_Bytes_init 4 rfl) rfl (fun _ => ?_) (fun hc => absurd ((I_le inR0 (by unfold inR; omega)).mpr (by omega)) hc)
  refine g_iloadn (pc := 13) (i0 := 1) (j := 1) (dK D_Bytes_init 7 rfl) rfl rfl ?_
  obtain ⟨C1, e1⟩ : ∃ D : Nat → PC, D = updC C (a + 1) (100, List.replicate M (.int 0)) := ⟨_, rfl⟩
  refine c_newarr_int (pc := 14) (M := M) (N1 := (a + 2)) (dK D_Bytes_init 8 rfl) hM (leK rfl) (by omega) (by unfold XB; omega) rfl e1 ?_
  have f1 : C1 a = (1, [.null, .int 0]) := by rw [e1, updC_ne (by omega)]; exact h0
  obtain ⟨C2, e2⟩ : ∃ D : Nat → PC, D = updC C1 a (1, [.ref (a + 1), .int 0]) := ⟨_, rfl⟩
  refine c_putF (pc := 16) (ci := 1) (f := 0) (dK D_Bytes_init 9 rfl) q_42 (ltK rfl) (ltK rfl) rfl rfl rfl (okV_arr _ _) (by omega) (by unfold XB; omega) f1 (ltK rfl) rfl e2 ?_
  have f2 : C2 a = (1, [.ref (a + 1), .int 0]) := by rw [e2]; exact updC_eq
  exact g_return (pc := 19) (dK D_Bytes_init 10 rfl) rfl (leK rfl) (by omega) (fun _ => rfl) ⟨rfl, C2, rfl, fun x hx => ((congrFun e2 _).trans (updC_ne (by omega))).trans (((congrFun e1 _).trans (updC_ne (by omega))).trans rfl), ⟨f2, ⟨((congrFun e2 _).trans (updC_ne (by omega))).trans ((congrFun e1 _).trans updC_eq), trivial⟩⟩⟩
def kept_l (a i : Nat) : List Value := (List.range 20).map (fun j => if j < i then .ref (a + 2 + 22 * j) else .null)
def hist_l (a : Nat) : List PC := (3, [.ref (a + 1), .int 0, .int 0]) :: ((105, kept_l a 20) :: ((List.range 20).flatMap (fun j => State_l (a + 2 + 22 * j))))
theorem hist_len {a : Nat} : (hist_l a).length = 442 := by
  have q := (Blk.flat (C := fun _ => (0, [])) (f := fun j => State_l (a + 2 + 22 * j)) (fun _ => rfl) (n := 0) (b := 0) (fun j hj => by omega)).2
  have e : ∀ n : Nat, ((List.range n).flatMap (fun j => State_l (a + 2 + 22 * j))).length = 22 * n := by
    intro n
    induction n with
    | zero => rfl
    | succ n ih =>
      rw [List.range_succ, List.flatMap_append, List.length_append, ih, List.flatMap_cons, List.flatMap_nil, List.append_nil]
      show 22 * n + 22 = _
      omega
  unfold hist_l
  rw [List.length_cons, List.length_cons, e]
theorem kept_set {a i : Nat} : (kept_l a i).set i (.ref (a + 2 + 22 * i)) = kept_l a (i + 1) := by
  unfold kept_l
  refine (map_set (fun _ => ?_) (fun j hj => ?_)).symm
  · exact if_pos (by omega)
  · by_cases h : j < i
    · rw [if_pos h, if_pos (by omega)]
    · rw [if_neg h, if_neg (by omega)]
theorem kept_len {a i : Nat} : (kept_l a i).length = 20 := by unfold kept_l; rw [List.length_map, List.length_range]
section HistLoop
variable {E : EV} {Y : MI} {mc ms pc k n N : Nat} {ls : List (Nat × Value)} {st : List Value} {C C1 : Nat → PC} {K : RK → PS → Prop}
theorem c_aast {a b i : Nat} {vs fs : List Value} (hd : decode (mBy Y) pc = .ok (.aastore, 1)) (ha : a < N) (hb : b < N) (hN : N ≤ XB) (hc : C a = (105, vs)) (hcb : C b = (8, fs)) (hi : i < vs.length) (hi2 : i ≤ 9999) (e : C1 = updC C a (105, vs.set i (.ref b)))
    (h : Go E Y mc ms (pc + 1) ls st (wdC N C1, true) k n K) : Go E Y mc ms pc ls (.ref b :: V (i : Int) :: .ref a :: st) (wdC N C, true) k n K := by
  subst e
  have e1 : (Int32.ofInt (i : Int)).toInt = (i : Int) := I_toInt (by unfold inR; omega)
  have e2 : (Int32.ofInt (i : Int)).toInt.toNat = i := by omega
  refine g_aastore hd (Nat.lt_of_lt_of_le ha hN) (Nat.lt_of_lt_of_le hb hN) (vs := vs) (fs := fs) (by rw [← hc]; exact wdc_at ha) (by rw [← hcb]; exact wdc_at hb) (by omega) (by rw [e2]; exact hi) ?_
  rw [e2]
  show Go E Y mc ms (pc + 1) ls st ((wdC N C).set a _, true) k n K
  rw [wdc_set]
  exact h
end HistLoop
theorem ct_hloop {E : EV} {C : Nat → PC} {a : Nat} (hx : a + 442 < 2000) : ∀ (m i : Nat) (Ci : Nat → PC), i + m = 20 → (∀ x, x < a → Ci x = C x) → Ci a = (3, [.ref (a + 1), .int 0, .int 0]) → Ci (a + 1) = (105, kept_l a i) → (∀ j, j < i → Blk Ci (a + 2 + 22 * j) (State_l (a + 2 + 22 * j))) →
    Go E M_History_init 441 7980 15 [(0, .ref a), (1, V (i : Int))] [] (wdC (a + 2 + 22 * i) Ci, true) (1 + 22 * i) (20 + 398 * i) (Post a C (hist_l a)) := by
  intro m
  induction m with
  | zero =>
    intro i Ci hi hp ha hk hb
    have hi : i = 20 := by omega
    subst hi
    refine g_iloadn (pc := 15) (i0 := 1) (j := 1) (dK D_History_init 8 rfl) rfl rfl ?_
    refine vg_bipush' (pc := 16) (dK D_History_init 9 rfl) rfl ?_
    refine g_icmp_ge (pc := 18) (tgt := 40) (dK D_History_init 10 rfl) rfl (fun _ => ?_) (fun hc => absurd (by decide) hc)
    have q := Blk.flat (C := Ci) (f := fun j => State_l (a + 2 + 22 * j)) (fun _ => rfl) (n := 20) (b := a + 2) hb
    have hl : (hist_l a).length = 442 := by unfold hist_l; rw [List.length_cons, List.length_cons, q.2]
    exact g_return (pc := 40) (dK D_History_init 20 rfl) rfl (leK rfl) (leK rfl) (fun _ => rfl) ⟨rfl, Ci, by rw [hl], hp, ⟨ha, ⟨hk, q.1⟩⟩⟩
  | succ m ih =>
    intro i Ci hi hp ha hk hb
    refine g_iloadn (pc := 15) (i0 := 1) (j := 1) (dK D_History_init 8 rfl) rfl rfl ?_
    refine vg_bipush' (pc := 16) (dK D_History_init 9 rfl) rfl ?_
    refine g_icmp_ge (pc := 18) (tgt := 40) (dK D_History_init 10 rfl) rfl (fun hc => absurd ((I_le (a := 20) (inRk rfl) (by unfold inR; omega)).mp hc) (by omega)) (fun _ => ?_)
    refine g_aloadn (pc := 21) (i0 := 0) (j := 0) (dK D_History_init 11 rfl) rfl rfl ?_
    refine c_get (pc := 22) (ci := 3) (f := 0) (dK D_History_init 12 rfl) q_363 (ltK rfl) (ltK rfl) (by omega) (by unfold XB; omega) ha rfl ?_
    refine g_iloadn (pc := 25) (i0 := 1) (j := 1) (dK D_History_init 13 rfl) rfl rfl ?_
    obtain ⟨C1, e1⟩ : ∃ D : Nat → PC, D = updC Ci (a + 2 + 22 * i) (8, dfl 8) := ⟨_, rfl⟩
    refine c_new (pc := 26) (ci := 8) (N1 := a + 2 + 22 * i + 1) (dK D_History_init 14 rfl) (ltK rfl) q_360 q_59 q_4 (by omega) (by show 20 + 398 * i + 8 ≤ 7980; omega) (by unfold XB; omega) rfl e1 ?_
    refine g_dup (pc := 29) (dK D_History_init 15 rfl) rfl ?_
    refine c_callIN (pc := 30) (As := []) (rest := [.ref (a + 2 + 22 * i), V (i : Int), .ref (a + 1)]) (mc' := 21) (ms' := 390) (dK D_History_init 16 rfl) K_History_17 (fitK rfl) rfl (leK rfl) (by omega) (by show 20 + 398 * i + 8 + 390 ≤ 7980; omega) (ct_State (C := C1) (a := a + 2 + 22 * i) (by omega) ((congrFun e1 _).trans updC_eq)) (postI (fun C2 p2 b2 => ?_))
    show Go E M_History_init 441 7980 33 [(0, .ref a), (1, V (i : Int))] [.ref (a + 2 + 22 * i), V (i : Int), .ref (a + 1)] (wdC (a + 2 + 22 * i + 22) C2, true) _ _ _
    obtain ⟨C3, e3⟩ : ∃ D : Nat → PC, D = updC C2 (a + 1) (105, (kept_l a i).set i (.ref (a + 2 + 22 * i))) := ⟨_, rfl⟩
    have f2 : C2 (a + 1) = (105, kept_l a i) := by rw [p2 _ (by omega), e1, updC_ne (by omega)]; exact hk
    refine c_aast (pc := 33) (dK D_History_init 17 rfl) (by omega) (by omega) (by unfold XB; omega) f2 b2.1 (by rw [kept_len]; omega) (by omega) e3 ?_
    have ei : ((i + 1 : Nat) : Int) = wr ((i : Int) + 1) := by rw [wr_id (by unfold inR; omega)]; omega
    refine vg_iinc (pc := 34) (j := 1) (a := (i : Int)) (z := 1) (x := ((i + 1 : Nat) : Int)) (ls2 := [(1, V ((i + 1 : Nat) : Int)), (0, .ref a)]) (dK D_History_init 18 rfl) rfl ei (ltK rfl) rfl ?_
    refine g_goto (pc := 37) (tgt := 15) (dK D_History_init 19 rfl) rfl ?_
    refine gL_weak (ls' := [(0, .ref a), (1, V ((i + 1 : Nat) : Int))]) (sbc 1 rfl (sbc 0 rfl sbn)) ?_
    have low : ∀ x, x < a + 2 + 22 * i → x ≠ a + 1 → C3 x = Ci x := fun x h1 h2 => ((congrFun e3 _).trans (updC_ne h2)).trans ((p2 _ h1).trans ((congrFun e1 _).trans (updC_ne (by omega))))
    have q := ih (i + 1) C3 (by omega) (fun x h => (low x (by omega) (by omega)).trans (hp x h)) ((low a (by omega) (by omega)).trans ha) (by rw [e3, updC_eq, kept_set]) (fun j hj => by
      by_cases hj2 : j = i
      · subst hj2
        exact Blk.pres (fun x h1 h2 => (congrFun e3 _).trans (updC_ne (by omega))) b2
      · exact Blk.pres (fun x h1 h2 => low x (by have h2 : x < a + 2 + 22 * j + 22 := h2; omega) (by omega)) (hb j (by omega)))
    rw [show a + 2 + 22 * (i + 1) = a + 2 + 22 * i + 22 by omega, show 1 + 22 * (i + 1) = 1 + 22 * i + 1 + 21 by omega, show 20 + 398 * (i + 1) = 20 + 398 * i + NC 8 + 390 by show _ = 20 + 398 * i + 8 + 390; omega] at q
    exact q
theorem ct_History {E : EV} {C : Nat → PC} {a : Nat} (hx : a + 442 < 2000) (h0 : C a = (3, dfl 3)) : Ev E M_History_init [.ref a] (wdC (a + 1) C, true) 441 7980 (Post a C (hist_l a)) := by
  refine Ev.of pn_History rfl (leK rfl) ?_
  show Go E M_History_init 441 7980 0 [(0, .ref a)] [] (wdC (a + 1) C, true) 0 0 (Post a C (hist_l a))
  have h0 : C a = (3, [.null, .int 0, .int 0]) := h0
  refine g_aloadn (pc := 0) (i0 := 0) (j := 0) (dK D_History_init 0 rfl) rfl rfl ?_
  refine g_objinit (pc := 1) (dK D_History_init 1 rfl) q_359 (leK rfl) (leK rfl) (leK rfl) ?_
  refine g_aloadn (pc := 4) (i0 := 0) (j := 0) (dK D_History_init 2 rfl) rfl rfl ?_
  refine vg_bipush' (pc := 5) (dK D_History_init 3 rfl) rfl ?_
  obtain ⟨C1, e1⟩ : ∃ D : Nat → PC, D = updC C (a + 1) (105, List.replicate 20 .null) := ⟨_, rfl⟩
  refine c_anew (pc := 7) (M := 20) (N1 := a + 2) (dK D_History_init 4 rfl) q_360 rfl (leK rfl) (leK rfl) (by unfold XB; omega) rfl e1 ?_
  have f1 : C1 a = (3, [.null, .int 0, .int 0]) := by rw [e1, updC_ne (by omega)]; exact h0
  obtain ⟨C2, e2⟩ : ∃ D : Nat → PC, D = updC C1 a (3, [.ref (a + 1), .int 0, .int 0]) := ⟨_, rfl⟩
  refine c_putF (pc := 10) (ci := 3) (f := 0) (dK D_History_init 5 rfl) q_363 (ltK rfl) (ltK rfl) rfl rfl rfl (okV_arr _ _) (by omega) (by unfold XB; omega) f1 (ltK rfl) rfl e2 ?_
  refine vg_iconst' (pc := 13) (dK D_History_init 6 rfl) ?_
  refine g_istoren (pc := 14) (i0 := 1) (ls2 := [(1, V 0), (0, .ref a)]) (dK D_History_init 7 rfl) rfl (ltK rfl) rfl ?_
  refine gL_weak (ls' := [(0, .ref a), (1, V 0)]) (sbc 1 rfl (sbc 0 rfl sbn)) ?_
  exact ct_hloop hx 20 0 C2 rfl (fun x h => ((congrFun e2 _).trans (updC_ne (by omega))).trans ((congrFun e1 _).trans (updC_ne (by omega)))) ((congrFun e2 _).trans updC_eq) (((congrFun e2 _).trans (updC_ne (by omega))).trans ((congrFun e1 _).trans updC_eq)) (fun j hj => by omega)

def Searches_l (a : Nat) (b : Nat) : List PC := (6, [.ref b, .ref (b + 1), .ref (a + 1), .ref (a + 2), .ref (a + 3), .ref (a + 4), .ref (a + 5), .ref (a + 6), .ref (a + 7), .ref (a + 8)]) :: ((100, List.replicate 40 (.int 0)) :: ((100, List.replicate 4 (.int 0)) :: ((100, List.replicate 65 (.int 0)) :: ((100, List.replicate 40 (.int 0)) :: ((100, List.replicate 65 (.int 0)) :: ((100, List.replicate 40 (.int 0)) :: ((100, List.replicate 8 (.int 0)) :: ((100, List.replicate 65 (.int 0)) :: ([])))))))))
theorem ct_Searches {E : EV} {C : Nat → PC} {a : Nat} {b : Nat} (hx : a + 9 < 2000) (h0 : C a = (6, dfl 6)) {v1 v2 v3 v4 v5 v6 v7 : Value} (hba : b < a) (hb : C b = (4, [.ref (b + 1), v1, v2, v3, v4, v5, v6, v7])) : Ev E M_Searches_init [.ref a, .ref b] (wdC (a + 1) C, true) 8 327 (Post a C (Searches_l a b)) := by
  refine Ev.of pn_Searches rfl (leK rfl) ?_
  show Go E M_Searches_init 8 327 0 [(0, .ref a), (1, .ref b)] [] (wdC (a + 1) C, true) 0 0 (Post a C (Searches_l a b))
  have h0 : C a = (6, [.null, .null, .null, .null, .null, .null, .null, .null, .null, .null]) := h0
  refine g_aloadn (pc := 0) (i0 := 0) (j := 0) (dK D_Searches_init 0 rfl) rfl rfl ?_
  refine g_objinit (pc := 1) (dK D_Searches_init 1 rfl) q_379 (leK rfl) (leK rfl) (leK rfl) ?_
  refine g_aloadn (pc := 4) (i0 := 0) (j := 0) (dK D_Searches_init 2 rfl) rfl rfl ?_
  refine vg_bipush' (pc := 5) (dK D_Searches_init 3 rfl) rfl ?_
  obtain ⟨C1, e1⟩ : ∃ D : Nat → PC, D = updC C (a + 1) (100, List.replicate 40 (.int 0)) := ⟨_, rfl⟩
  refine c_newarr_int (pc := 7) (M := 40) (N1 := (a + 2)) (dK D_Searches_init 4 rfl) rfl (leK rfl) (leK rfl) (by unfold XB; omega) rfl e1 ?_
  have f1 : C1 a = (6, [.null, .null, .null, .null, .null, .null, .null, .null, .null, .null]) := by rw [e1, updC_ne (by omega)]; exact h0
  obtain ⟨C2, e2⟩ : ∃ D : Nat → PC, D = updC C1 a (6, [.null, .null, .ref (a + 1), .null, .null, .null, .null, .null, .null, .null]) := ⟨_, rfl⟩
  refine c_putF (pc := 9) (ci := 6) (f := 2) (dK D_Searches_init 5 rfl) q_382 (ltK rfl) (ltK rfl) rfl rfl rfl (okV_arr _ _) (by omega) (by unfold XB; omega) f1 (ltK rfl) rfl e2 ?_
  have f2 : C2 a = (6, [.null, .null, .ref (a + 1), .null, .null, .null, .null, .null, .null, .null]) := by rw [e2]; exact updC_eq
  refine g_aloadn (pc := 12) (i0 := 0) (j := 0) (dK D_Searches_init 6 rfl) rfl rfl ?_
  refine vg_iconst' (pc := 13) (dK D_Searches_init 7 rfl) ?_
  obtain ⟨C3, e3⟩ : ∃ D : Nat → PC, D = updC C2 (a + 2) (100, List.replicate 4 (.int 0)) := ⟨_, rfl⟩
  refine c_newarr_int (pc := 14) (M := 4) (N1 := (a + 3)) (dK D_Searches_init 8 rfl) rfl (leK rfl) (leK rfl) (by unfold XB; omega) rfl e3 ?_
  have f3 : C3 a = (6, [.null, .null, .ref (a + 1), .null, .null, .null, .null, .null, .null, .null]) := by rw [e3, updC_ne (by omega)]; exact f2
  obtain ⟨C4, e4⟩ : ∃ D : Nat → PC, D = updC C3 a (6, [.null, .null, .ref (a + 1), .ref (a + 2), .null, .null, .null, .null, .null, .null]) := ⟨_, rfl⟩
  refine c_putF (pc := 16) (ci := 6) (f := 3) (dK D_Searches_init 9 rfl) q_383 (ltK rfl) (ltK rfl) rfl rfl rfl (okV_arr _ _) (by omega) (by unfold XB; omega) f3 (ltK rfl) rfl e4 ?_
  have f4 : C4 a = (6, [.null, .null, .ref (a + 1), .ref (a + 2), .null, .null, .null, .null, .null, .null]) := by rw [e4]; exact updC_eq
  refine g_aloadn (pc := 19) (i0 := 0) (j := 0) (dK D_Searches_init 10 rfl) rfl rfl ?_
  refine vg_bipush' (pc := 20) (dK D_Searches_init 11 rfl) rfl ?_
  obtain ⟨C5, e5⟩ : ∃ D : Nat → PC, D = updC C4 (a + 3) (100, List.replicate 65 (.int 0)) := ⟨_, rfl⟩
  refine c_newarr_int (pc := 22) (M := 65) (N1 := (a + 4)) (dK D_Searches_init 12 rfl) rfl (leK rfl) (leK rfl) (by unfold XB; omega) rfl e5 ?_
  have f5 : C5 a = (6, [.null, .null, .ref (a + 1), .ref (a + 2), .null, .null, .null, .null, .null, .null]) := by rw [e5, updC_ne (by omega)]; exact f4
  obtain ⟨C6, e6⟩ : ∃ D : Nat → PC, D = updC C5 a (6, [.null, .null, .ref (a + 1), .ref (a + 2), .ref (a + 3), .null, .null, .null, .null, .null]) := ⟨_, rfl⟩
  refine c_putF (pc := 24) (ci := 6) (f := 4) (dK D_Searches_init 13 rfl) q_384 (ltK rfl) (ltK rfl) rfl rfl rfl (okV_arr _ _) (by omega) (by unfold XB; omega) f5 (ltK rfl) rfl e6 ?_
  have f6 : C6 a = (6, [.null, .null, .ref (a + 1), .ref (a + 2), .ref (a + 3), .null, .null, .null, .null, .null]) := by rw [e6]; exact updC_eq
  refine g_aloadn (pc := 27) (i0 := 0) (j := 0) (dK D_Searches_init 14 rfl) rfl rfl ?_
  refine vg_bipush' (pc := 28) (dK D_Searches_init 15 rfl) rfl ?_
  obtain ⟨C7, e7⟩ : ∃ D : Nat → PC, D = updC C6 (a + 4) (100, List.replicate 40 (.int 0)) := ⟨_, rfl⟩
  refine c_newarr_int (pc := 30) (M := 40) (N1 := (a + 5)) (dK D_Searches_init 16 rfl) rfl (leK rfl) (leK rfl) (by unfold XB; omega) rfl e7 ?_
  have f7 : C7 a = (6, [.null, .null, .ref (a + 1), .ref (a + 2), .ref (a + 3), .null, .null, .null, .null, .null]) := by rw [e7, updC_ne (by omega)]; exact f6
  obtain ⟨C8, e8⟩ : ∃ D : Nat → PC, D = updC C7 a (6, [.null, .null, .ref (a + 1), .ref (a + 2), .ref (a + 3), .ref (a + 4), .null, .null, .null, .null]) := ⟨_, rfl⟩
  refine c_putF (pc := 32) (ci := 6) (f := 5) (dK D_Searches_init 17 rfl) q_385 (ltK rfl) (ltK rfl) rfl rfl rfl (okV_arr _ _) (by omega) (by unfold XB; omega) f7 (ltK rfl) rfl e8 ?_
  have f8 : C8 a = (6, [.null, .null, .ref (a + 1), .ref (a + 2), .ref (a + 3), .ref (a + 4), .null, .null, .null, .null]) := by rw [e8]; exact updC_eq
  refine g_aloadn (pc := 35) (i0 := 0) (j := 0) (dK D_Searches_init 18 rfl) rfl rfl ?_
  refine vg_bipush' (pc := 36) (dK D_Searches_init 19 rfl) rfl ?_
  obtain ⟨C9, e9⟩ : ∃ D : Nat → PC, D = updC C8 (a + 5) (100, List.replicate 65 (.int 0)) := ⟨_, rfl⟩
  refine c_newarr_int (pc := 38) (M := 65) (N1 := (a + 6)) (dK D_Searches_init 20 rfl) rfl (leK rfl) (leK rfl) (by unfold XB; omega) rfl e9 ?_
  have f9 : C9 a = (6, [.null, .null, .ref (a + 1), .ref (a + 2), .ref (a + 3), .ref (a + 4), .null, .null, .null, .null]) := by rw [e9, updC_ne (by omega)]; exact f8
  obtain ⟨C10, e10⟩ : ∃ D : Nat → PC, D = updC C9 a (6, [.null, .null, .ref (a + 1), .ref (a + 2), .ref (a + 3), .ref (a + 4), .ref (a + 5), .null, .null, .null]) := ⟨_, rfl⟩
  refine c_putF (pc := 40) (ci := 6) (f := 6) (dK D_Searches_init 21 rfl) q_386 (ltK rfl) (ltK rfl) rfl rfl rfl (okV_arr _ _) (by omega) (by unfold XB; omega) f9 (ltK rfl) rfl e10 ?_
  have f10 : C10 a = (6, [.null, .null, .ref (a + 1), .ref (a + 2), .ref (a + 3), .ref (a + 4), .ref (a + 5), .null, .null, .null]) := by rw [e10]; exact updC_eq
  refine g_aloadn (pc := 43) (i0 := 0) (j := 0) (dK D_Searches_init 22 rfl) rfl rfl ?_
  refine vg_bipush' (pc := 44) (dK D_Searches_init 23 rfl) rfl ?_
  obtain ⟨C11, e11⟩ : ∃ D : Nat → PC, D = updC C10 (a + 6) (100, List.replicate 40 (.int 0)) := ⟨_, rfl⟩
  refine c_newarr_int (pc := 46) (M := 40) (N1 := (a + 7)) (dK D_Searches_init 24 rfl) rfl (leK rfl) (leK rfl) (by unfold XB; omega) rfl e11 ?_
  have f11 : C11 a = (6, [.null, .null, .ref (a + 1), .ref (a + 2), .ref (a + 3), .ref (a + 4), .ref (a + 5), .null, .null, .null]) := by rw [e11, updC_ne (by omega)]; exact f10
  obtain ⟨C12, e12⟩ : ∃ D : Nat → PC, D = updC C11 a (6, [.null, .null, .ref (a + 1), .ref (a + 2), .ref (a + 3), .ref (a + 4), .ref (a + 5), .ref (a + 6), .null, .null]) := ⟨_, rfl⟩
  refine c_putF (pc := 48) (ci := 6) (f := 7) (dK D_Searches_init 25 rfl) q_387 (ltK rfl) (ltK rfl) rfl rfl rfl (okV_arr _ _) (by omega) (by unfold XB; omega) f11 (ltK rfl) rfl e12 ?_
  have f12 : C12 a = (6, [.null, .null, .ref (a + 1), .ref (a + 2), .ref (a + 3), .ref (a + 4), .ref (a + 5), .ref (a + 6), .null, .null]) := by rw [e12]; exact updC_eq
  refine g_aloadn (pc := 51) (i0 := 0) (j := 0) (dK D_Searches_init 26 rfl) rfl rfl ?_
  refine vg_bipush' (pc := 52) (dK D_Searches_init 27 rfl) rfl ?_
  obtain ⟨C13, e13⟩ : ∃ D : Nat → PC, D = updC C12 (a + 7) (100, List.replicate 8 (.int 0)) := ⟨_, rfl⟩
  refine c_newarr_int (pc := 54) (M := 8) (N1 := (a + 8)) (dK D_Searches_init 28 rfl) rfl (leK rfl) (leK rfl) (by unfold XB; omega) rfl e13 ?_
  have f13 : C13 a = (6, [.null, .null, .ref (a + 1), .ref (a + 2), .ref (a + 3), .ref (a + 4), .ref (a + 5), .ref (a + 6), .null, .null]) := by rw [e13, updC_ne (by omega)]; exact f12
  obtain ⟨C14, e14⟩ : ∃ D : Nat → PC, D = updC C13 a (6, [.null, .null, .ref (a + 1), .ref (a + 2), .ref (a + 3), .ref (a + 4), .ref (a + 5), .ref (a + 6), .ref (a + 7), .null]) := ⟨_, rfl⟩
  refine c_putF (pc := 56) (ci := 6) (f := 8) (dK D_Searches_init 29 rfl) q_388 (ltK rfl) (ltK rfl) rfl rfl rfl (okV_arr _ _) (by omega) (by unfold XB; omega) f13 (ltK rfl) rfl e14 ?_
  have f14 : C14 a = (6, [.null, .null, .ref (a + 1), .ref (a + 2), .ref (a + 3), .ref (a + 4), .ref (a + 5), .ref (a + 6), .ref (a + 7), .null]) := by rw [e14]; exact updC_eq
  refine g_aloadn (pc := 59) (i0 := 0) (j := 0) (dK D_Searches_init 30 rfl) rfl rfl ?_
  refine vg_bipush' (pc := 60) (dK D_Searches_init 31 rfl) rfl ?_
  obtain ⟨C15, e15⟩ : ∃ D : Nat → PC, D = updC C14 (a + 8) (100, List.replicate 65 (.int 0)) := ⟨_, rfl⟩
  refine c_newarr_int (pc := 62) (M := 65) (N1 := (a + 9)) (dK D_Searches_init 32 rfl) rfl (leK rfl) (leK rfl) (by unfold XB; omega) rfl e15 ?_
  have f15 : C15 a = (6, [.null, .null, .ref (a + 1), .ref (a + 2), .ref (a + 3), .ref (a + 4), .ref (a + 5), .ref (a + 6), .ref (a + 7), .null]) := by rw [e15, updC_ne (by omega)]; exact f14
  obtain ⟨C16, e16⟩ : ∃ D : Nat → PC, D = updC C15 a (6, [.null, .null, .ref (a + 1), .ref (a + 2), .ref (a + 3), .ref (a + 4), .ref (a + 5), .ref (a + 6), .ref (a + 7), .ref (a + 8)]) := ⟨_, rfl⟩
  refine c_putF (pc := 64) (ci := 6) (f := 9) (dK D_Searches_init 33 rfl) q_389 (ltK rfl) (ltK rfl) rfl rfl rfl (okV_arr _ _) (by omega) (by unfold XB; omega) f15 (ltK rfl) rfl e16 ?_
  have f16 : C16 a = (6, [.null, .null, .ref (a + 1), .ref (a + 2), .ref (a + 3), .ref (a + 4), .ref (a + 5), .ref (a + 6), .ref (a + 7), .ref (a + 8)]) := by rw [e16]; exact updC_eq
  refine g_aloadn (pc := 67) (i0 := 0) (j := 0) (dK D_Searches_init 34 rfl) rfl rfl ?_
  refine g_aloadn (pc := 68) (i0 := 1) (j := 1) (dK D_Searches_init 35 rfl) rfl rfl ?_
  obtain ⟨C17, e17⟩ : ∃ D : Nat → PC, D = updC C16 a (6, [.ref b, .null, .ref (a + 1), .ref (a + 2), .ref (a + 3), .ref (a + 4), .ref (a + 5), .ref (a + 6), .ref (a + 7), .ref (a + 8)]) := ⟨_, rfl⟩
  refine c_putF (pc := 69) (ci := 6) (f := 0) (dK D_Searches_init 36 rfl) q_380 (ltK rfl) (ltK rfl) rfl rfl rfl (okV_obj _ _) (by omega) (by unfold XB; omega) f16 (ltK rfl) rfl e17 ?_
  have f17 : C17 a = (6, [.ref b, .null, .ref (a + 1), .ref (a + 2), .ref (a + 3), .ref (a + 4), .ref (a + 5), .ref (a + 6), .ref (a + 7), .ref (a + 8)]) := by rw [e17]; exact updC_eq
  refine g_aloadn (pc := 72) (i0 := 0) (j := 0) (dK D_Searches_init 37 rfl) rfl rfl ?_
  refine g_aloadn (pc := 73) (i0 := 1) (j := 1) (dK D_Searches_init 38 rfl) rfl rfl ?_
  have g74 : C17 b = (4, [.ref (b + 1), v1, v2, v3, v4, v5, v6, v7]) := ((congrFun e17 _).trans (updC_ne (by omega))).trans (((congrFun e16 _).trans (updC_ne (by omega))).trans (((congrFun e15 _).trans (updC_ne (by omega))).trans (((congrFun e14 _).trans (updC_ne (by omega))).trans (((congrFun e13 _).trans (updC_ne (by omega))).trans (((congrFun e12 _).trans (updC_ne (by omega))).trans (((congrFun e11 _).trans (updC_ne (by omega))).trans (((congrFun e10 _).trans (updC_ne (by omega))).trans (((congrFun e9 _).trans (updC_ne (by omega))).trans (((congrFun e8 _).trans (updC_ne (by omega))).trans (((congrFun e7 _).trans (updC_ne (by omega))).trans (((congrFun e6 _).trans (updC_ne (by omega))).trans (((congrFun e5 _).trans (updC_ne (by omega))).trans (((congrFun e4 _).trans (updC_ne (by omega))).trans (((congrFun e3 _).trans (updC_ne (by omega))).trans (((congrFun e2 _).trans (updC_ne (by omega))).trans (((congrFun e1 _).trans (updC_ne (by omega))).trans (hb)))))))))))))))))
  refine c_get (pc := 74) (ci := 4) (f := 0) (dK D_Searches_init 39 rfl) q_281 (ltK rfl) (ltK rfl) (by omega) (by unfold XB; omega) g74 rfl ?_
  obtain ⟨C18, e18⟩ : ∃ D : Nat → PC, D = updC C17 a (6, [.ref b, .ref (b + 1), .ref (a + 1), .ref (a + 2), .ref (a + 3), .ref (a + 4), .ref (a + 5), .ref (a + 6), .ref (a + 7), .ref (a + 8)]) := ⟨_, rfl⟩
  refine c_putF (pc := 77) (ci := 6) (f := 1) (dK D_Searches_init 40 rfl) q_381 (ltK rfl) (ltK rfl) rfl rfl rfl (okV_obj _ _) (by omega) (by unfold XB; omega) f17 (ltK rfl) rfl e18 ?_
  have f18 : C18 a = (6, [.ref b, .ref (b + 1), .ref (a + 1), .ref (a + 2), .ref (a + 3), .ref (a + 4), .ref (a + 5), .ref (a + 6), .ref (a + 7), .ref (a + 8)]) := by rw [e18]; exact updC_eq
  exact g_return (pc := 80) (dK D_Searches_init 41 rfl) rfl (leK rfl) (leK rfl) (fun _ => rfl) ⟨rfl, C18, rfl, fun x hx => ((congrFun e18 _).trans (updC_ne (by omega))).trans (((congrFun e17 _).trans (updC_ne (by omega))).trans (((congrFun e16 _).trans (updC_ne (by omega))).trans (((congrFun e15 _).trans (updC_ne (by omega))).trans (((congrFun e14 _).trans (updC_ne (by omega))).trans (((congrFun e13 _).trans (updC_ne (by omega))).trans (((congrFun e12 _).trans (updC_ne (by omega))).trans (((congrFun e11 _).trans (updC_ne (by omega))).trans (((congrFun e10 _).trans (updC_ne (by omega))).trans (((congrFun e9 _).trans (updC_ne (by omega))).trans (((congrFun e8 _).trans (updC_ne (by omega))).trans (((congrFun e7 _).trans (updC_ne (by omega))).trans (((congrFun e6 _).trans (updC_ne (by omega))).trans (((congrFun e5 _).trans (updC_ne (by omega))).trans (((congrFun e4 _).trans (updC_ne (by omega))).trans (((congrFun e3 _).trans (updC_ne (by omega))).trans (((congrFun e2 _).trans (updC_ne (by omega))).trans (((congrFun e1 _).trans (updC_ne (by omega))).trans (rfl)))))))))))))))))), ⟨f18, ⟨((congrFun e18 _).trans (updC_ne (by omega))).trans (((congrFun e17 _).trans (updC_ne (by omega))).trans (((congrFun e16 _).trans (updC_ne (by omega))).trans (((congrFun e15 _).trans (updC_ne (by omega))).trans (((congrFun e14 _).trans (updC_ne (by omega))).trans (((congrFun e13 _).trans (updC_ne (by omega))).trans (((congrFun e12 _).trans (updC_ne (by omega))).trans (((congrFun e11 _).trans (updC_ne (by omega))).trans (((congrFun e10 _).trans (updC_ne (by omega))).trans (((congrFun e9 _).trans (updC_ne (by omega))).trans (((congrFun e8 _).trans (updC_ne (by omega))).trans (((congrFun e7 _).trans (updC_ne (by omega))).trans (((congrFun e6 _).trans (updC_ne (by omega))).trans (((congrFun e5 _).trans (updC_ne (by omega))).trans (((congrFun e4 _).trans (updC_ne (by omega))).trans (((congrFun e3 _).trans (updC_ne (by omega))).trans (((congrFun e2 _).trans (updC_ne (by omega))).trans ((congrFun e1 _).trans updC_eq))))))))))))))))), ⟨((congrFun e18 _).trans (updC_ne (by omega))).trans (((congrFun e17 _).trans (updC_ne (by omega))).trans (((congrFun e16 _).trans (updC_ne (by omega))).trans (((congrFun e15 _).trans (updC_ne (by omega))).trans (((congrFun e14 _).trans (updC_ne (by omega))).trans (((congrFun e13 _).trans (updC_ne (by omega))).trans (((congrFun e12 _).trans (updC_ne (by omega))).trans (((congrFun e11 _).trans (updC_ne (by omega))).trans (((congrFun e10 _).trans (updC_ne (by omega))).trans (((congrFun e9 _).trans (updC_ne (by omega))).trans (((congrFun e8 _).trans (updC_ne (by omega))).trans (((congrFun e7 _).trans (updC_ne (by omega))).trans (((congrFun e6 _).trans (updC_ne (by omega))).trans (((congrFun e5 _).trans (updC_ne (by omega))).trans (((congrFun e4 _).trans (updC_ne (by omega))).trans ((congrFun e3 _).trans updC_eq))))))))))))))), ⟨((congrFun e18 _).trans (updC_ne (by omega))).trans (((congrFun e17 _).trans (updC_ne (by omega))).trans (((congrFun e16 _).trans (updC_ne (by omega))).trans (((congrFun e15 _).trans (updC_ne (by omega))).trans (((congrFun e14 _).trans (updC_ne (by omega))).trans (((congrFun e13 _).trans (updC_ne (by omega))).trans (((congrFun e12 _).trans (updC_ne (by omega))).trans (((congrFun e11 _).trans (updC_ne (by omega))).trans (((congrFun e10 _).trans (updC_ne (by omega))).trans (((congrFun e9 _).trans (updC_ne (by omega))).trans (((congrFun e8 _).trans (updC_ne (by omega))).trans (((congrFun e7 _).trans (updC_ne (by omega))).trans (((congrFun e6 _).trans (updC_ne (by omega))).trans ((congrFun e5 _).trans updC_eq))))))))))))), ⟨((congrFun e18 _).trans (updC_ne (by omega))).trans (((congrFun e17 _).trans (updC_ne (by omega))).trans (((congrFun e16 _).trans (updC_ne (by omega))).trans (((congrFun e15 _).trans (updC_ne (by omega))).trans (((congrFun e14 _).trans (updC_ne (by omega))).trans (((congrFun e13 _).trans (updC_ne (by omega))).trans (((congrFun e12 _).trans (updC_ne (by omega))).trans (((congrFun e11 _).trans (updC_ne (by omega))).trans (((congrFun e10 _).trans (updC_ne (by omega))).trans (((congrFun e9 _).trans (updC_ne (by omega))).trans (((congrFun e8 _).trans (updC_ne (by omega))).trans ((congrFun e7 _).trans updC_eq))))))))))), ⟨((congrFun e18 _).trans (updC_ne (by omega))).trans (((congrFun e17 _).trans (updC_ne (by omega))).trans (((congrFun e16 _).trans (updC_ne (by omega))).trans (((congrFun e15 _).trans (updC_ne (by omega))).trans (((congrFun e14 _).trans (updC_ne (by omega))).trans (((congrFun e13 _).trans (updC_ne (by omega))).trans (((congrFun e12 _).trans (updC_ne (by omega))).trans (((congrFun e11 _).trans (updC_ne (by omega))).trans (((congrFun e10 _).trans (updC_ne (by omega))).trans ((congrFun e9 _).trans updC_eq))))))))), ⟨((congrFun e18 _).trans (updC_ne (by omega))).trans (((congrFun e17 _).trans (updC_ne (by omega))).trans (((congrFun e16 _).trans (updC_ne (by omega))).trans (((congrFun e15 _).trans (updC_ne (by omega))).trans (((congrFun e14 _).trans (updC_ne (by omega))).trans (((congrFun e13 _).trans (updC_ne (by omega))).trans (((congrFun e12 _).trans (updC_ne (by omega))).trans ((congrFun e11 _).trans updC_eq))))))), ⟨((congrFun e18 _).trans (updC_ne (by omega))).trans (((congrFun e17 _).trans (updC_ne (by omega))).trans (((congrFun e16 _).trans (updC_ne (by omega))).trans (((congrFun e15 _).trans (updC_ne (by omega))).trans (((congrFun e14 _).trans (updC_ne (by omega))).trans ((congrFun e13 _).trans updC_eq))))), ⟨((congrFun e18 _).trans (updC_ne (by omega))).trans (((congrFun e17 _).trans (updC_ne (by omega))).trans (((congrFun e16 _).trans (updC_ne (by omega))).trans ((congrFun e15 _).trans updC_eq))), trivial⟩⟩⟩⟩⟩⟩⟩⟩⟩⟩
def PlanP_l (a : Nat) : List PC := (4, [.ref (a + 1), .int 0, .int 0, .ref (a + 23), .ref (a + 24), .ref (a + 25), .ref (a + 26), .ref (a + 27)]) :: ((State_l (a + 1)) ++ ((100, List.replicate 65 (.int 0)) :: ((100, List.replicate 65 (.int 0)) :: ((100, List.replicate 65 (.int 0)) :: ((100, List.replicate 65 (.int 0)) :: ((100, List.replicate 330 (.int 0)) :: ([])))))))
def Z0 : St := (fun _ _ => 0, fun _ _ => 0, fun _ _ => 0)
def cS (S : St) (x : Nat) : PC := (kd x, sl S x)
def plan_l (a : Nat) (S1 : St) : List PC := (List.range 28).map (fun j => cS S1 (a + j))
theorem plan_len {a : Nat} {S1 : St} : (plan_l a S1).length = 28 := by unfold plan_l; rw [List.length_map, List.length_range]
theorem Blk.of {C : Nat → PC} {f : Nat → PC} : ∀ {n a : Nat}, (∀ j, j < n → C (a + j) = f j) → Blk C a ((List.range n).map f) := by
  intro n
  induction n with
  | zero => intro a _; exact trivial
  | succ n ih =>
    intro a h
    rw [List.range_succ, List.map_append]
    refine Blk.app (ih (fun j hj => h j (by omega))) ?_
    rw [List.length_map, List.length_range]
    exact ⟨h n (by omega), trivial⟩
def mkX (a n : Nat) (Cn : Nat → PC) : XT := (a + n, fun x => Nat.ble a x, Cn, true)
theorem mkX_w {a n : Nat} {Cn : Nat → PC} {S : St} (h : ∀ j, j < n → Cn (a + j) = cS S (a + j)) : WX (mkX a n Cn) S = (wdC (a + n) Cn, true) := by
  unfold WX gmX mkX
  refine congrArg (fun z => (z, true)) (List.map_congr_left (fun x hx => ?_))
  have hx := List.mem_range.mp hx
  show (if Nat.ble a x = true then _ else _) = _
  by_cases c : a ≤ x
  · rw [if_pos (Nat.ble_eq.mpr c)]
    have q := h (x - a) (by have : x < a + n := hx; omega)
    rw [show a + (x - a) = x by omega] at q
    exact q.symm
  · rw [if_neg (fun z => c (Nat.ble_eq.mp z))]
theorem mkX_o {a n : Nat} {Cn : Nat → PC} {S : St} : WX (mkX a n Cn) S = (wdC (a + n) (fun x => if Nat.ble a x = true then cS S x else Cn x), true) := rfl
theorem mkX_cl {a n : Nat} {Cn : Nat → PC} (hn : a + n ≤ nCell) (h : ∀ x, x < a + n → a ≤ x → (∀ q ∈ fkT, kd x = q.1 → a ≤ tgt x q.2.1 ∧ tgt x q.2.1 < a + n) ∧ kd x ≠ 105) : Cl (mkX a n Cn) := by
  refine ⟨hn, fun x f hx hm hf => ?_⟩
  have hm := Nat.ble_eq.mp hm
  have q := h x hx hm
  rcases hf with ⟨k, l, hm2⟩ | ⟨h5, _⟩
  · have z := q.1 _ hm2 rfl
    exact ⟨z.2, Nat.ble_eq.mpr z.1⟩
  · exact absurd h5 q.2
theorem plan_cl5 : ∀ x, x < 33 → 5 ≤ x → (∀ q ∈ fkT, kd x = q.1 → 5 ≤ tgt x q.2.1 ∧ tgt x q.2.1 < 33) ∧ kd x ≠ 105 := by decide +kernel
theorem plan_cl33 : ∀ x, x < 61 → 33 ≤ x → (∀ q ∈ fkT, kd x = q.1 → 33 ≤ tgt x q.2.1 ∧ tgt x q.2.1 < 61) ∧ kd x ≠ 105 := by decide +kernel
theorem planZ5 : ∀ j, j < 28 → (PlanP_l 5)[j]? = some (cS Z0 (5 + j)) := by decide +kernel
theorem planZ33 : ∀ j, j < 28 → (PlanP_l 33)[j]? = some (cS Z0 (33 + j)) := by decide +kernel
theorem plan_end {E : EV} {C Cn : Nat → PC} {a : Nat} {S1 : St} (ha : a = 5 ∨ a = 33) (hfn : fn_Plan_begin a 1 16 Z0 = some S1) (hb : Blk Cn a (PlanP_l a)) (hp : ∀ x, x < a → Cn x = C x) :
    Go E M_Plan_init 27 988 60 [(0, .ref a)] [V 16, V 1, .ref a] (wdC (a + 28) Cn, true) 27 988 (Post a C (plan_l a S1)) := by
  have hz : ∀ j, j < 28 → Cn (a + j) = cS Z0 (a + j) := by
    rcases ha with rfl | rfl
    · exact fun j hj => hb.at (planZ5 j hj)
    · exact fun j hj => hb.at (planZ33 j hj)
  have hc : HC (mkX a 28 Cn) 4 a := by
    refine ⟨?_, by show a < a + 28; omega, Nat.ble_eq.mpr (Nat.le_refl _), ?_⟩
    · rcases ha with rfl | rfl
      · exact mkX_cl (Nat.le_of_ble_eq_true rfl) plan_cl5
      · exact mkX_cl (Nat.le_of_ble_eq_true rfl) plan_cl33
    · rcases ha with rfl | rfl <;> rfl
  rw [← mkX_w hz]
  refine vg_cV (pc := 60) (As := [V 1, V 16]) (rest := []) (mc' := 0) (ms' := 0) (dK D_Plan_init 30 rfl) K_Plan_34 (fitK rfl) (ltK rfl) hc rfl (leK rfl) (leK rfl) (leK rfl) (tf_Plan_begin hc (inRk rfl) (inRk rfl) hfn) (kcU ?_)
  refine g_return (pc := 63) (dK D_Plan_init 31 rfl) rfl (leK rfl) (leK rfl) (fun _ => rfl) ⟨rfl, (fun x => if Nat.ble a x = true then cS S1 x else Cn x), ?_, ?_, Blk.of (fun j hj => ?_)⟩
  · rw [plan_len]; exact mkX_o
  · intro x hx
    show (if Nat.ble a x = true then cS S1 x else Cn x) = C x
    rw [if_neg (fun z => by have := Nat.ble_eq.mp z; omega)]
    exact hp x hx
  · show (if Nat.ble a (a + j) = true then cS S1 (a + j) else Cn (a + j)) = _
    rw [if_pos (Nat.ble_eq.mpr (by omega))]
theorem plFact {C : Nat → PC} {a : Nat} {SP : St} (ha0 : a = 0) (h : C (a + 5) = cS SP (a + 5)) : C (a + 5) = (4, [.ref (a + 5 + 1), fv SP 5 1, fv SP 5 2, fv SP 5 3, fv SP 5 4, fv SP 5 5, fv SP 5 6, fv SP 5 7]) := by
  subst ha0
  rw [h]; rfl

theorem ct_PlanP {E : EV} {C : Nat → PC} {a : Nat} (hx : a + 28 < 2000) (h0 : C a = (4, dfl 4)) {S1 : St} (ha : a = 5 ∨ a = 33) (hfn : fn_Plan_begin a 1 16 Z0 = some S1) : Ev E M_Plan_init [.ref a] (wdC (a + 1) C, true) 27 988 (Post a C (plan_l a S1)) := by
  refine Ev.of pn_Plan rfl (leK rfl) ?_
  show Go E M_Plan_init 27 988 0 [(0, .ref a)] [] (wdC (a + 1) C, true) 0 0 (Post a C (plan_l a S1))
  have h0 : C a = (4, [.null, .int 0, .int 0, .null, .null, .null, .null, .null]) := h0
  refine g_aloadn (pc := 0) (i0 := 0) (j := 0) (dK D_Plan_init 0 rfl) rfl rfl ?_
  refine g_objinit (pc := 1) (dK D_Plan_init 1 rfl) q_57 (leK rfl) (leK rfl) (leK rfl) ?_
  refine g_aloadn (pc := 4) (i0 := 0) (j := 0) (dK D_Plan_init 2 rfl) rfl rfl ?_
  obtain ⟨C1, e1⟩ : ∃ D : Nat → PC, D = updC C (a + 1) (8, dfl 8) := ⟨_, rfl⟩
  refine c_new (pc := 5) (ci := 8) (N1 := (a + 2)) (dK D_Plan_init 3 rfl) (ltK rfl) q_58 q_59 q_4 (leK rfl) (leK rfl) (by unfold XB; omega) rfl e1 ?_
  have f1 : C1 a = (4, [.null, .int 0, .int 0, .null, .null, .null, .null, .null]) := by rw [e1, updC_ne (by omega)]; exact h0
  refine g_dup (pc := 8) (dK D_Plan_init 4 rfl) rfl ?_
  refine c_callIN (pc := 9) (As := []) (rest := [.ref (a + 1), .ref a]) (mc' := 21) (ms' := 390) (dK D_Plan_init 5 rfl) K_Plan_11 (fitK rfl) rfl (leK rfl) (leK rfl) (leK rfl) (ct_State (C := C1) (a := a + 1) (by omega) ((congrFun e1 _).trans updC_eq)) (postI (fun C2 p2 b2 => ?_))
  have f2 : C2 a = (4, [.null, .int 0, .int 0, .null, .null, .null, .null, .null]) := by rw [p2 a (by omega)]; exact f1
  show Go E M_Plan_init 27 988 12 [(0, .ref a)] [.ref (a + 1), .ref a] (wdC (a + 23) C2, true) _ _ _
  obtain ⟨C3, e3⟩ : ∃ D : Nat → PC, D = updC C2 a (4, [.ref (a + 1), .int 0, .int 0, .null, .null, .null, .null, .null]) := ⟨_, rfl⟩
  refine c_putF (pc := 12) (ci := 4) (f := 0) (dK D_Plan_init 6 rfl) q_280 (ltK rfl) (ltK rfl) rfl rfl rfl (okV_obj _ _) (by omega) (by unfold XB; omega) f2 (ltK rfl) rfl e3 ?_
  have f3 : C3 a = (4, [.ref (a + 1), .int 0, .int 0, .null, .null, .null, .null, .null]) := by rw [e3]; exact updC_eq
  refine g_aloadn (pc := 15) (i0 := 0) (j := 0) (dK D_Plan_init 7 rfl) rfl rfl ?_
  refine vg_bipush' (pc := 16) (dK D_Plan_init 8 rfl) rfl ?_
  obtain ⟨C4, e4⟩ : ∃ D : Nat → PC, D = updC C3 (a + 23) (100, List.replicate 65 (.int 0)) := ⟨_, rfl⟩
  refine c_newarr_int (pc := 18) (M := 65) (N1 := (a + 24)) (dK D_Plan_init 9 rfl) rfl (leK rfl) (leK rfl) (by unfold XB; omega) rfl e4 ?_
  have f4 : C4 a = (4, [.ref (a + 1), .int 0, .int 0, .null, .null, .null, .null, .null]) := by rw [e4, updC_ne (by omega)]; exact f3
  obtain ⟨C5, e5⟩ : ∃ D : Nat → PC, D = updC C4 a (4, [.ref (a + 1), .int 0, .int 0, .ref (a + 23), .null, .null, .null, .null]) := ⟨_, rfl⟩
  refine c_putF (pc := 20) (ci := 4) (f := 3) (dK D_Plan_init 10 rfl) q_292 (ltK rfl) (ltK rfl) rfl rfl rfl (okV_arr _ _) (by omega) (by unfold XB; omega) f4 (ltK rfl) rfl e5 ?_
  have f5 : C5 a = (4, [.ref (a + 1), .int 0, .int 0, .ref (a + 23), .null, .null, .null, .null]) := by rw [e5]; exact updC_eq
  refine g_aloadn (pc := 23) (i0 := 0) (j := 0) (dK D_Plan_init 11 rfl) rfl rfl ?_
  refine vg_bipush' (pc := 24) (dK D_Plan_init 12 rfl) rfl ?_
  obtain ⟨C6, e6⟩ : ∃ D : Nat → PC, D = updC C5 (a + 24) (100, List.replicate 65 (.int 0)) := ⟨_, rfl⟩
  refine c_newarr_int (pc := 26) (M := 65) (N1 := (a + 25)) (dK D_Plan_init 13 rfl) rfl (leK rfl) (leK rfl) (by unfold XB; omega) rfl e6 ?_
  have f6 : C6 a = (4, [.ref (a + 1), .int 0, .int 0, .ref (a + 23), .null, .null, .null, .null]) := by rw [e6, updC_ne (by omega)]; exact f5
  obtain ⟨C7, e7⟩ : ∃ D : Nat → PC, D = updC C6 a (4, [.ref (a + 1), .int 0, .int 0, .ref (a + 23), .ref (a + 24), .null, .null, .null]) := ⟨_, rfl⟩
  refine c_putF (pc := 28) (ci := 4) (f := 4) (dK D_Plan_init 14 rfl) q_295 (ltK rfl) (ltK rfl) rfl rfl rfl (okV_arr _ _) (by omega) (by unfold XB; omega) f6 (ltK rfl) rfl e7 ?_
  have f7 : C7 a = (4, [.ref (a + 1), .int 0, .int 0, .ref (a + 23), .ref (a + 24), .null, .null, .null]) := by rw [e7]; exact updC_eq
  refine g_aloadn (pc := 31) (i0 := 0) (j := 0) (dK D_Plan_init 15 rfl) rfl rfl ?_
  refine vg_bipush' (pc := 32) (dK D_Plan_init 16 rfl) rfl ?_
  obtain ⟨C8, e8⟩ : ∃ D : Nat → PC, D = updC C7 (a + 25) (100, List.replicate 65 (.int 0)) := ⟨_, rfl⟩
  refine c_newarr_int (pc := 34) (M := 65) (N1 := (a + 26)) (dK D_Plan_init 17 rfl) rfl (leK rfl) (leK rfl) (by unfold XB; omega) rfl e8 ?_
  have f8 : C8 a = (4, [.ref (a + 1), .int 0, .int 0, .ref (a + 23), .ref (a + 24), .null, .null, .null]) := by rw [e8, updC_ne (by omega)]; exact f7
  obtain ⟨C9, e9⟩ : ∃ D : Nat → PC, D = updC C8 a (4, [.ref (a + 1), .int 0, .int 0, .ref (a + 23), .ref (a + 24), .ref (a + 25), .null, .null]) := ⟨_, rfl⟩
  refine c_putF (pc := 36) (ci := 4) (f := 5) (dK D_Plan_init 18 rfl) q_297 (ltK rfl) (ltK rfl) rfl rfl rfl (okV_arr _ _) (by omega) (by unfold XB; omega) f8 (ltK rfl) rfl e9 ?_
  have f9 : C9 a = (4, [.ref (a + 1), .int 0, .int 0, .ref (a + 23), .ref (a + 24), .ref (a + 25), .null, .null]) := by rw [e9]; exact updC_eq
  refine g_aloadn (pc := 39) (i0 := 0) (j := 0) (dK D_Plan_init 19 rfl) rfl rfl ?_
  refine vg_bipush' (pc := 40) (dK D_Plan_init 20 rfl) rfl ?_
  obtain ⟨C10, e10⟩ : ∃ D : Nat → PC, D = updC C9 (a + 26) (100, List.replicate 65 (.int 0)) := ⟨_, rfl⟩
  refine c_newarr_int (pc := 42) (M := 65) (N1 := (a + 27)) (dK D_Plan_init 21 rfl) rfl (leK rfl) (leK rfl) (by unfold XB; omega) rfl e10 ?_
  have f10 : C10 a = (4, [.ref (a + 1), .int 0, .int 0, .ref (a + 23), .ref (a + 24), .ref (a + 25), .null, .null]) := by rw [e10, updC_ne (by omega)]; exact f9
  obtain ⟨C11, e11⟩ : ∃ D : Nat → PC, D = updC C10 a (4, [.ref (a + 1), .int 0, .int 0, .ref (a + 23), .ref (a + 24), .ref (a + 25), .ref (a + 26), .null]) := ⟨_, rfl⟩
  refine c_putF (pc := 44) (ci := 4) (f := 6) (dK D_Plan_init 22 rfl) q_299 (ltK rfl) (ltK rfl) rfl rfl rfl (okV_arr _ _) (by omega) (by unfold XB; omega) f10 (ltK rfl) rfl e11 ?_
  have f11 : C11 a = (4, [.ref (a + 1), .int 0, .int 0, .ref (a + 23), .ref (a + 24), .ref (a + 25), .ref (a + 26), .null]) := by rw [e11]; exact updC_eq
  refine g_aloadn (pc := 47) (i0 := 0) (j := 0) (dK D_Plan_init 23 rfl) rfl rfl ?_
  refine vg_sipush' (pc := 48) (dK D_Plan_init 24 rfl) rfl ?_
  obtain ⟨C12, e12⟩ : ∃ D : Nat → PC, D = updC C11 (a + 27) (100, List.replicate 330 (.int 0)) := ⟨_, rfl⟩
  refine c_newarr_int (pc := 51) (M := 330) (N1 := (a + 28)) (dK D_Plan_init 25 rfl) rfl (leK rfl) (leK rfl) (by unfold XB; omega) rfl e12 ?_
  have f12 : C12 a = (4, [.ref (a + 1), .int 0, .int 0, .ref (a + 23), .ref (a + 24), .ref (a + 25), .ref (a + 26), .null]) := by rw [e12, updC_ne (by omega)]; exact f11
  obtain ⟨C13, e13⟩ : ∃ D : Nat → PC, D = updC C12 a (4, [.ref (a + 1), .int 0, .int 0, .ref (a + 23), .ref (a + 24), .ref (a + 25), .ref (a + 26), .ref (a + 27)]) := ⟨_, rfl⟩
  refine c_putF (pc := 53) (ci := 4) (f := 7) (dK D_Plan_init 26 rfl) q_302 (ltK rfl) (ltK rfl) rfl rfl rfl (okV_arr _ _) (by omega) (by unfold XB; omega) f12 (ltK rfl) rfl e13 ?_
  have f13 : C13 a = (4, [.ref (a + 1), .int 0, .int 0, .ref (a + 23), .ref (a + 24), .ref (a + 25), .ref (a + 26), .ref (a + 27)]) := by rw [e13]; exact updC_eq
  refine g_aloadn (pc := 56) (i0 := 0) (j := 0) (dK D_Plan_init 27 rfl) rfl rfl ?_
  refine vg_iconst' (pc := 57) (dK D_Plan_init 28 rfl) ?_
  refine vg_bipush' (pc := 58) (dK D_Plan_init 29 rfl) rfl ?_
  have hb : Blk C13 a (PlanP_l a) := ⟨f13, Blk.app' (n := 22) rfl (Blk.pres (fun x h1 h2 => ((congrFun e13 _).trans (updC_ne (by have h2 : x < _ + 22 := h2; omega))).trans (((congrFun e12 _).trans (updC_ne (by have h2 : x < _ + 22 := h2; omega))).trans (((congrFun e11 _).trans (updC_ne (by have h2 : x < _ + 22 := h2; omega))).trans (((congrFun e10 _).trans (updC_ne (by have h2 : x < _ + 22 := h2; omega))).trans (((congrFun e9 _).trans (updC_ne (by have h2 : x < _ + 22 := h2; omega))).trans (((congrFun e8 _).trans (updC_ne (by have h2 : x < _ + 22 := h2; omega))).trans (((congrFun e7 _).trans (updC_ne (by have h2 : x < _ + 22 := h2; omega))).trans (((congrFun e6 _).trans (updC_ne (by have h2 : x < _ + 22 := h2; omega))).trans (((congrFun e5 _).trans (updC_ne (by have h2 : x < _ + 22 := h2; omega))).trans (((congrFun e4 _).trans (updC_ne (by have h2 : x < _ + 22 := h2; omega))).trans (((congrFun e3 _).trans (updC_ne (by have h2 : x < _ + 22 := h2; omega))).trans (rfl)))))))))))) b2) (⟨((congrFun e13 _).trans (updC_ne (by omega))).trans (((congrFun e12 _).trans (updC_ne (by omega))).trans (((congrFun e11 _).trans (updC_ne (by omega))).trans (((congrFun e10 _).trans (updC_ne (by omega))).trans (((congrFun e9 _).trans (updC_ne (by omega))).trans (((congrFun e8 _).trans (updC_ne (by omega))).trans (((congrFun e7 _).trans (updC_ne (by omega))).trans (((congrFun e6 _).trans (updC_ne (by omega))).trans (((congrFun e5 _).trans (updC_ne (by omega))).trans ((congrFun e4 _).trans updC_eq))))))))), ⟨((congrFun e13 _).trans (updC_ne (by omega))).trans (((congrFun e12 _).trans (updC_ne (by omega))).trans (((congrFun e11 _).trans (updC_ne (by omega))).trans (((congrFun e10 _).trans (updC_ne (by omega))).trans (((congrFun e9 _).trans (updC_ne (by omega))).trans (((congrFun e8 _).trans (updC_ne (by omega))).trans (((congrFun e7 _).trans (updC_ne (by omega))).trans ((congrFun e6 _).trans updC_eq))))))), ⟨((congrFun e13 _).trans (updC_ne (by omega))).trans (((congrFun e12 _).trans (updC_ne (by omega))).trans (((congrFun e11 _).trans (updC_ne (by omega))).trans (((congrFun e10 _).trans (updC_ne (by omega))).trans (((congrFun e9 _).trans (updC_ne (by omega))).trans ((congrFun e8 _).trans updC_eq))))), ⟨((congrFun e13 _).trans (updC_ne (by omega))).trans (((congrFun e12 _).trans (updC_ne (by omega))).trans (((congrFun e11 _).trans (updC_ne (by omega))).trans ((congrFun e10 _).trans updC_eq))), ⟨((congrFun e13 _).trans (updC_ne (by omega))).trans ((congrFun e12 _).trans updC_eq), trivial⟩⟩⟩⟩⟩)⟩
  have hp : ∀ x, x < a → C13 x = C x := fun x hx => ((congrFun e13 _).trans (updC_ne (by omega))).trans (((congrFun e12 _).trans (updC_ne (by omega))).trans (((congrFun e11 _).trans (updC_ne (by omega))).trans (((congrFun e10 _).trans (updC_ne (by omega))).trans (((congrFun e9 _).trans (updC_ne (by omega))).trans (((congrFun e8 _).trans (updC_ne (by omega))).trans (((congrFun e7 _).trans (updC_ne (by omega))).trans (((congrFun e6 _).trans (updC_ne (by omega))).trans (((congrFun e5 _).trans (updC_ne (by omega))).trans (((congrFun e4 _).trans (updC_ne (by omega))).trans (((congrFun e3 _).trans (updC_ne (by omega))).trans ((p2 _ (by omega)).trans (((congrFun e1 _).trans (updC_ne (by omega))).trans (rfl)))))))))))))
  exact plan_end ha hfn hb hp
def FP_l (a : Nat) (SP SD : St) : List PC := (10, [.ref (a + 1), .ref (a + 3), .ref (a + 5), .ref (a + 33), .ref (a + 61), .ref (a + 63), .ref (a + 505)]) :: ((Bytes_l 1600 (a + 1)) ++ ((Bytes_l 20 (a + 3)) ++ ((plan_l (a + 5) SP) ++ ((plan_l (a + 33) SD) ++ ((Reader_l (a + 61) (a + 1) (a + 33)) ++ ((hist_l (a + 63)) ++ ((Searches_l (a + 505) (a + 5)) ++ ([]))))))))
theorem FP_len (a : Nat) (SP SD : St) : (FP_l a SP SD).length = 514 := by
  unfold FP_l
  have e1 : ∀ m b, (Bytes_l m b).length = 2 := fun _ _ => rfl
  have e2 : ∀ x y z, (Reader_l x y z).length = 2 := fun _ _ _ => rfl
  have e3 : ∀ x y, (Searches_l x y).length = 9 := fun _ _ => rfl
  simp only [List.length_cons, List.length_append, plan_len, hist_len, List.length_nil, e1, e2, e3]
theorem ct_FP {E : EV} {C : Nat → PC} {a : Nat} (hx : a + 514 < 2000) (h0 : C a = (10, dfl 10)) {SP SD : St} (ha0 : a = 0) (h5 : fn_Plan_begin (a + 5) 1 16 Z0 = some SP) (h33 : fn_Plan_begin (a + 33) 1 16 Z0 = some SD) : Ev E M_FP_init [.ref a] (wdC (a + 1) C, true) 513 11950 (Post a C (FP_l a SP SD)) := by
  refine Ev.of pn_FP rfl (leK rfl) ?_
  show Go E M_FP_init 513 11950 0 [(0, .ref a)] [] (wdC (a + 1) C, true) 0 0 (Post a C (FP_l a SP SD))
  have h0 : C a = (10, [.null, .null, .null, .null, .null, .null, .null]) := h0
  refine g_aloadn (pc := 0) (i0 := 0) (j := 0) (dK D_FP_init 0 rfl) rfl rfl ?_
  refine g_objinit (pc := 1) (dK D_FP_init 1 rfl) q_33 (leK rfl) (leK rfl) (leK rfl) ?_
  refine g_aloadn (pc := 4) (i0 := 0) (j := 0) (dK D_FP_init 2 rfl) rfl rfl ?_
  obtain ⟨C1, e1⟩ : ∃ D : Nat → PC, D = updC C (a + 1) (1, dfl 1) := ⟨_, rfl⟩
  refine c_new (pc := 5) (ci := 1) (N1 := (a + 2)) (dK D_FP_init 3 rfl) (ltK rfl) q_36 q_37 q_2 (leK rfl) (leK rfl) (by unfold XB; omega) rfl e1 ?_
  have f1 : C1 a = (10, [.null, .null, .null, .null, .null, .null, .null]) := by rw [e1, updC_ne (by omega)]; exact h0
  refine g_dup (pc := 8) (dK D_FP_init 4 rfl) rfl ?_
  refine vg_sipush' (pc := 9) (dK D_FP_init 5 rfl) rfl ?_
  refine c_callI (pc := 12) (As := [V (1600)]) (rest := [.ref (a + 1), .ref a]) (mc' := 1) (ms' := 1600) (dK D_FP_init 6 rfl) K_FP_11 (fitK rfl) rfl (leK rfl) (leK rfl) (leK rfl) (ct_Bytes (C := C1) (a := a + 1) (M := 1600) rfl (by omega) ((congrFun e1 _).trans updC_eq)) (postI (fun C2 p2 b2 => ?_))
  have f2 : C2 a = (10, [.null, .null, .null, .null, .null, .null, .null]) := by rw [p2 a (by omega)]; exact f1
  show Go E M_FP_init 513 11950 15 [(0, .ref a)] [.ref (a + 1), .ref a] (wdC (a + 3) C2, true) _ _ _
  obtain ⟨C3, e3⟩ : ∃ D : Nat → PC, D = updC C2 a (10, [.ref (a + 1), .null, .null, .null, .null, .null, .null]) := ⟨_, rfl⟩
  refine c_putF (pc := 15) (ci := 10) (f := 0) (dK D_FP_init 7 rfl) q_411 (ltK rfl) (ltK rfl) rfl rfl rfl (okV_obj _ _) (by omega) (by unfold XB; omega) f2 (ltK rfl) rfl e3 ?_
  have f3 : C3 a = (10, [.ref (a + 1), .null, .null, .null, .null, .null, .null]) := by rw [e3]; exact updC_eq
  refine g_aloadn (pc := 18) (i0 := 0) (j := 0) (dK D_FP_init 8 rfl) rfl rfl ?_
  obtain ⟨C4, e4⟩ : ∃ D : Nat → PC, D = updC C3 (a + 3) (1, dfl 1) := ⟨_, rfl⟩
  refine c_new (pc := 19) (ci := 1) (N1 := (a + 4)) (dK D_FP_init 9 rfl) (ltK rfl) q_36 q_37 q_2 (leK rfl) (leK rfl) (by unfold XB; omega) rfl e4 ?_
  have f4 : C4 a = (10, [.ref (a + 1), .null, .null, .null, .null, .null, .null]) := by rw [e4, updC_ne (by omega)]; exact f3
  refine g_dup (pc := 22) (dK D_FP_init 10 rfl) rfl ?_
  refine vg_bipush' (pc := 23) (dK D_FP_init 11 rfl) rfl ?_
  refine c_callI (pc := 25) (As := [V (20)]) (rest := [.ref (a + 3), .ref a]) (mc' := 1) (ms' := 20) (dK D_FP_init 12 rfl) K_FP_11 (fitK rfl) rfl (leK rfl) (leK rfl) (leK rfl) (ct_Bytes (C := C4) (a := a + 3) (M := 20) rfl (by omega) ((congrFun e4 _).trans updC_eq)) (postI (fun C5 p5 b5 => ?_))
  have f5 : C5 a = (10, [.ref (a + 1), .null, .null, .null, .null, .null, .null]) := by rw [p5 a (by omega)]; exact f4
  show Go E M_FP_init 513 11950 28 [(0, .ref a)] [.ref (a + 3), .ref a] (wdC (a + 5) C5, true) _ _ _
  obtain ⟨C6, e6⟩ : ∃ D : Nat → PC, D = updC C5 a (10, [.ref (a + 1), .ref (a + 3), .null, .null, .null, .null, .null]) := ⟨_, rfl⟩
  refine c_putF (pc := 28) (ci := 10) (f := 1) (dK D_FP_init 13 rfl) q_412 (ltK rfl) (ltK rfl) rfl rfl rfl (okV_obj _ _) (by omega) (by unfold XB; omega) f5 (ltK rfl) rfl e6 ?_
  have f6 : C6 a = (10, [.ref (a + 1), .ref (a + 3), .null, .null, .null, .null, .null]) := by rw [e6]; exact updC_eq
  refine g_aloadn (pc := 31) (i0 := 0) (j := 0) (dK D_FP_init 14 rfl) rfl rfl ?_
  obtain ⟨C7, e7⟩ : ∃ D : Nat → PC, D = updC C6 (a + 5) (4, dfl 4) := ⟨_, rfl⟩
  refine c_new (pc := 32) (ci := 4) (N1 := (a + 6)) (dK D_FP_init 15 rfl) (ltK rfl) q_52 q_53 q_3 (leK rfl) (leK rfl) (by unfold XB; omega) rfl e7 ?_
  have f7 : C7 a = (10, [.ref (a + 1), .ref (a + 3), .null, .null, .null, .null, .null]) := by rw [e7, updC_ne (by omega)]; exact f6
  refine g_dup (pc := 35) (dK D_FP_init 16 rfl) rfl ?_
  refine c_callI (pc := 36) (As := []) (rest := [.ref (a + 5), .ref a]) (mc' := 27) (ms' := 988) (dK D_FP_init 17 rfl) K_FP_23 (fitK rfl) rfl (leK rfl) (leK rfl) (leK rfl) (ct_PlanP (C := C7) (a := a + 5) (by omega) ((congrFun e7 _).trans updC_eq) (by omega) h5) (postI (fun C8 p8 b8 => ?_))
  have f8 : C8 a = (10, [.ref (a + 1), .ref (a + 3), .null, .null, .null, .null, .null]) := by rw [p8 a (by omega)]; exact f7
  rw [plan_len]
  show Go E M_FP_init 513 11950 39 [(0, .ref a)] [.ref (a + 5), .ref a] (wdC (a + 33) C8, true) _ _ _
  obtain ⟨C9, e9⟩ : ∃ D : Nat → PC, D = updC C8 a (10, [.ref (a + 1), .ref (a + 3), .ref (a + 5), .null, .null, .null, .null]) := ⟨_, rfl⟩
  refine c_putF (pc := 39) (ci := 10) (f := 2) (dK D_FP_init 18 rfl) q_413 (ltK rfl) (ltK rfl) rfl rfl rfl (okV_obj _ _) (by omega) (by unfold XB; omega) f8 (ltK rfl) rfl e9 ?_
  have f9 : C9 a = (10, [.ref (a + 1), .ref (a + 3), .ref (a + 5), .null, .null, .null, .null]) := by rw [e9]; exact updC_eq
  refine g_aloadn (pc := 42) (i0 := 0) (j := 0) (dK D_FP_init 19 rfl) rfl rfl ?_
  obtain ⟨C10, e10⟩ : ∃ D : Nat → PC, D = updC C9 (a + 33) (4, dfl 4) := ⟨_, rfl⟩
  refine c_new (pc := 43) (ci := 4) (N1 := (a + 34)) (dK D_FP_init 20 rfl) (ltK rfl) q_52 q_53 q_3 (leK rfl) (leK rfl) (by unfold XB; omega) rfl e10 ?_
  have f10 : C10 a = (10, [.ref (a + 1), .ref (a + 3), .ref (a + 5), .null, .null, .null, .null]) := by rw [e10, updC_ne (by omega)]; exact f9
  refine g_dup (pc := 46) (dK D_FP_init 21 rfl) rfl ?_
  refine c_callI (pc := 47) (As := []) (rest := [.ref (a + 33), .ref a]) (mc' := 27) (ms' := 988) (dK D_FP_init 22 rfl) K_FP_23 (fitK rfl) rfl (leK rfl) (leK rfl) (leK rfl) (ct_PlanP (C := C10) (a := a + 33) (by omega) ((congrFun e10 _).trans updC_eq) (by omega) h33) (postI (fun C11 p11 b11 => ?_))
  have f11 : C11 a = (10, [.ref (a + 1), .ref (a + 3), .ref (a + 5), .null, .null, .null, .null]) := by rw [p11 a (by omega)]; exact f10
  rw [plan_len]
  show Go E M_FP_init 513 11950 50 [(0, .ref a)] [.ref (a + 33), .ref a] (wdC (a + 61) C11, true) _ _ _
  obtain ⟨C12, e12⟩ : ∃ D : Nat → PC, D = updC C11 a (10, [.ref (a + 1), .ref (a + 3), .ref (a + 5), .ref (a + 33), .null, .null, .null]) := ⟨_, rfl⟩
  refine c_putF (pc := 50) (ci := 10) (f := 3) (dK D_FP_init 23 rfl) q_414 (ltK rfl) (ltK rfl) rfl rfl rfl (okV_obj _ _) (by omega) (by unfold XB; omega) f11 (ltK rfl) rfl e12 ?_
  have f12 : C12 a = (10, [.ref (a + 1), .ref (a + 3), .ref (a + 5), .ref (a + 33), .null, .null, .null]) := by rw [e12]; exact updC_eq
  refine g_aloadn (pc := 53) (i0 := 0) (j := 0) (dK D_FP_init 24 rfl) rfl rfl ?_
  obtain ⟨C13, e13⟩ : ∃ D : Nat → PC, D = updC C12 (a + 61) (5, dfl 5) := ⟨_, rfl⟩
  refine c_new (pc := 54) (ci := 5) (N1 := (a + 62)) (dK D_FP_init 25 rfl) (ltK rfl) q_321 q_322 q_11 (leK rfl) (leK rfl) (by unfold XB; omega) rfl e13 ?_
  have f13 : C13 a = (10, [.ref (a + 1), .ref (a + 3), .ref (a + 5), .ref (a + 33), .null, .null, .null]) := by rw [e13, updC_ne (by omega)]; exact f12
  refine g_dup (pc := 57) (dK D_FP_init 26 rfl) rfl ?_
  refine g_aloadn (pc := 58) (i0 := 0) (j := 0) (dK D_FP_init 27 rfl) rfl rfl ?_
  refine c_get (pc := 59) (ci := 10) (f := 0) (dK D_FP_init 28 rfl) q_411 (ltK rfl) (ltK rfl) (by omega) (by unfold XB; omega) f13 rfl ?_
  refine g_aloadn (pc := 62) (i0 := 0) (j := 0) (dK D_FP_init 29 rfl) rfl rfl ?_
  refine c_get (pc := 63) (ci := 10) (f := 3) (dK D_FP_init 30 rfl) q_414 (ltK rfl) (ltK rfl) (by omega) (by unfold XB; omega) f13 rfl ?_
  refine c_callI (pc := 66) (As := [.ref (a + 1), .ref (a + 33)]) (rest := [.ref (a + 61), .ref a]) (mc' := 1) (ms' := 6) (dK D_FP_init 31 rfl) K_FP_33 (fitK rfl) rfl (leK rfl) (leK rfl) (leK rfl) (ct_Reader (C := C13) (a := a + 61) (b := a + 1) (d := a + 33) (by omega) ((congrFun e13 _).trans updC_eq)) (postI (fun C14 p14 b14 => ?_))
  have f14 : C14 a = (10, [.ref (a + 1), .ref (a + 3), .ref (a + 5), .ref (a + 33), .null, .null, .null]) := by rw [p14 a (by omega)]; exact f13
  show Go E M_FP_init 513 11950 69 [(0, .ref a)] [.ref (a + 61), .ref a] (wdC (a + 63) C14, true) _ _ _
  obtain ⟨C15, e15⟩ : ∃ D : Nat → PC, D = updC C14 a (10, [.ref (a + 1), .ref (a + 3), .ref (a + 5), .ref (a + 33), .ref (a + 61), .null, .null]) := ⟨_, rfl⟩
  refine c_putF (pc := 69) (ci := 10) (f := 4) (dK D_FP_init 32 rfl) q_415 (ltK rfl) (ltK rfl) rfl rfl rfl (okV_obj _ _) (by omega) (by unfold XB; omega) f14 (ltK rfl) rfl e15 ?_
  have f15 : C15 a = (10, [.ref (a + 1), .ref (a + 3), .ref (a + 5), .ref (a + 33), .ref (a + 61), .null, .null]) := by rw [e15]; exact updC_eq
  refine g_aloadn (pc := 72) (i0 := 0) (j := 0) (dK D_FP_init 33 rfl) rfl rfl ?_
  obtain ⟨C16, e16⟩ : ∃ D : Nat → PC, D = updC C15 (a + 63) (3, dfl 3) := ⟨_, rfl⟩
  refine c_new (pc := 73) (ci := 3) (N1 := (a + 64)) (dK D_FP_init 34 rfl) (ltK rfl) q_354 q_355 q_12 (leK rfl) (leK rfl) (by unfold XB; omega) rfl e16 ?_
  have f16 : C16 a = (10, [.ref (a + 1), .ref (a + 3), .ref (a + 5), .ref (a + 33), .ref (a + 61), .null, .null]) := by rw [e16, updC_ne (by omega)]; exact f15
  refine g_dup (pc := 76) (dK D_FP_init 35 rfl) rfl ?_
  refine c_callI (pc := 77) (As := []) (rest := [.ref (a + 63), .ref a]) (mc' := 441) (ms' := 7980) (dK D_FP_init 36 rfl) K_FP_42 (fitK rfl) rfl (leK rfl) (leK rfl) (leK rfl) (ct_History (C := C16) (a := a + 63) (by omega) ((congrFun e16 _).trans updC_eq)) (postI (fun C17 p17 b17 => ?_))
  have f17 : C17 a = (10, [.ref (a + 1), .ref (a + 3), .ref (a + 5), .ref (a + 33), .ref (a + 61), .null, .null]) := by rw [p17 a (by omega)]; exact f16
  rw [hist_len]
  show Go E M_FP_init 513 11950 80 [(0, .ref a)] [.ref (a + 63), .ref a] (wdC (a + 505) C17, true) _ _ _
  obtain ⟨C18, e18⟩ : ∃ D : Nat → PC, D = updC C17 a (10, [.ref (a + 1), .ref (a + 3), .ref (a + 5), .ref (a + 33), .ref (a + 61), .ref (a + 63), .null]) := ⟨_, rfl⟩
  refine c_putF (pc := 80) (ci := 10) (f := 5) (dK D_FP_init 37 rfl) q_416 (ltK rfl) (ltK rfl) rfl rfl rfl (okV_obj _ _) (by omega) (by unfold XB; omega) f17 (ltK rfl) rfl e18 ?_
  have f18 : C18 a = (10, [.ref (a + 1), .ref (a + 3), .ref (a + 5), .ref (a + 33), .ref (a + 61), .ref (a + 63), .null]) := by rw [e18]; exact updC_eq
  refine g_aloadn (pc := 83) (i0 := 0) (j := 0) (dK D_FP_init 38 rfl) rfl rfl ?_
  obtain ⟨C19, e19⟩ : ∃ D : Nat → PC, D = updC C18 (a + 505) (6, dfl 6) := ⟨_, rfl⟩
  refine c_new (pc := 84) (ci := 6) (N1 := (a + 506)) (dK D_FP_init 39 rfl) (ltK rfl) q_374 q_375 q_13 (leK rfl) (leK rfl) (by unfold XB; omega) rfl e19 ?_
  have f19 : C19 a = (10, [.ref (a + 1), .ref (a + 3), .ref (a + 5), .ref (a + 33), .ref (a + 61), .ref (a + 63), .null]) := by rw [e19, updC_ne (by omega)]; exact f18
  refine g_dup (pc := 87) (dK D_FP_init 40 rfl) rfl ?_
  refine g_aloadn (pc := 88) (i0 := 0) (j := 0) (dK D_FP_init 41 rfl) rfl rfl ?_
  refine c_get (pc := 89) (ci := 10) (f := 2) (dK D_FP_init 42 rfl) q_413 (ltK rfl) (ltK rfl) (by omega) (by unfold XB; omega) f19 rfl ?_
  have gpl : C19 (a + 5) = cS SP (a + 5) := ((congrFun e19 _).trans (updC_ne (by omega))).trans (((congrFun e18 _).trans (updC_ne (by omega))).trans ((p17 _ (by omega)).trans (((congrFun e16 _).trans (updC_ne (by omega))).trans (((congrFun e15 _).trans (updC_ne (by omega))).trans ((p14 _ (by omega)).trans (((congrFun e13 _).trans (updC_ne (by omega))).trans (((congrFun e12 _).trans (updC_ne (by omega))).trans ((p11 _ (by omega)).trans (((congrFun e10 _).trans (updC_ne (by omega))).trans (((congrFun e9 _).trans (updC_ne (by omega))).trans ((Blk.at (j := 0) b8 rfl))))))))))))
  refine c_callI (pc := 92) (As := [.ref (a + 5)]) (rest := [.ref (a + 505), .ref a]) (mc' := 8) (ms' := 327) (dK D_FP_init 43 rfl) K_FP_49 (fitK rfl) rfl (leK rfl) (leK rfl) (leK rfl) (ct_Searches (C := C19) (a := a + 505) (b := a + 5) (by omega) ((congrFun e19 _).trans updC_eq) (by omega) (plFact ha0 gpl)) (postI (fun C20 p20 b20 => ?_))
  have f20 : C20 a = (10, [.ref (a + 1), .ref (a + 3), .ref (a + 5), .ref (a + 33), .ref (a + 61), .ref (a + 63), .null]) := by rw [p20 a (by omega)]; exact f19
  show Go E M_FP_init 513 11950 95 [(0, .ref a)] [.ref (a + 505), .ref a] (wdC (a + 514) C20, true) _ _ _
  obtain ⟨C21, e21⟩ : ∃ D : Nat → PC, D = updC C20 a (10, [.ref (a + 1), .ref (a + 3), .ref (a + 5), .ref (a + 33), .ref (a + 61), .ref (a + 63), .ref (a + 505)]) := ⟨_, rfl⟩
  refine c_putF (pc := 95) (ci := 10) (f := 6) (dK D_FP_init 44 rfl) q_417 (ltK rfl) (ltK rfl) rfl rfl rfl (okV_obj _ _) (by omega) (by unfold XB; omega) f20 (ltK rfl) rfl e21 ?_
  have f21 : C21 a = (10, [.ref (a + 1), .ref (a + 3), .ref (a + 5), .ref (a + 33), .ref (a + 61), .ref (a + 63), .ref (a + 505)]) := by rw [e21]; exact updC_eq
  exact g_return (pc := 98) (dK D_FP_init 45 rfl) rfl (leK rfl) (leK rfl) (fun _ => rfl) ⟨rfl, C21, congrArg (fun z => (wdC z C21, true)) (by rw [FP_len]), fun x hx => ((congrFun e21 _).trans (updC_ne (by omega))).trans ((p20 _ (by omega)).trans (((congrFun e19 _).trans (updC_ne (by omega))).trans (((congrFun e18 _).trans (updC_ne (by omega))).trans ((p17 _ (by omega)).trans (((congrFun e16 _).trans (updC_ne (by omega))).trans (((congrFun e15 _).trans (updC_ne (by omega))).trans ((p14 _ (by omega)).trans (((congrFun e13 _).trans (updC_ne (by omega))).trans (((congrFun e12 _).trans (updC_ne (by omega))).trans ((p11 _ (by omega)).trans (((congrFun e10 _).trans (updC_ne (by omega))).trans (((congrFun e9 _).trans (updC_ne (by omega))).trans ((p8 _ (by omega)).trans (((congrFun e7 _).trans (updC_ne (by omega))).trans (((congrFun e6 _).trans (updC_ne (by omega))).trans ((p5 _ (by omega)).trans (((congrFun e4 _).trans (updC_ne (by omega))).trans (((congrFun e3 _).trans (updC_ne (by omega))).trans ((p2 _ (by omega)).trans (((congrFun e1 _).trans (updC_ne (by omega))).trans (rfl))))))))))))))))))))), ⟨f21, Blk.app' (n := 2) rfl (Blk.pres (fun x h1 h2 => ((congrFun e21 _).trans (updC_ne (by have h2 : x < _ + 2 := h2; omega))).trans ((p20 _ (by have h2 : x < _ + 2 := h2; omega)).trans (((congrFun e19 _).trans (updC_ne (by have h2 : x < _ + 2 := h2; omega))).trans (((congrFun e18 _).trans (updC_ne (by have h2 : x < _ + 2 := h2; omega))).trans ((p17 _ (by have h2 : x < _ + 2 := h2; omega)).trans (((congrFun e16 _).trans (updC_ne (by have h2 : x < _ + 2 := h2; omega))).trans (((congrFun e15 _).trans (updC_ne (by have h2 : x < _ + 2 := h2; omega))).trans ((p14 _ (by have h2 : x < _ + 2 := h2; omega)).trans (((congrFun e13 _).trans (updC_ne (by have h2 : x < _ + 2 := h2; omega))).trans (((congrFun e12 _).trans (updC_ne (by have h2 : x < _ + 2 := h2; omega))).trans ((p11 _ (by have h2 : x < _ + 2 := h2; omega)).trans (((congrFun e10 _).trans (updC_ne (by have h2 : x < _ + 2 := h2; omega))).trans (((congrFun e9 _).trans (updC_ne (by have h2 : x < _ + 2 := h2; omega))).trans ((p8 _ (by have h2 : x < _ + 2 := h2; omega)).trans (((congrFun e7 _).trans (updC_ne (by have h2 : x < _ + 2 := h2; omega))).trans (((congrFun e6 _).trans (updC_ne (by have h2 : x < _ + 2 := h2; omega))).trans ((p5 _ (by have h2 : x < _ + 2 := h2; omega)).trans (((congrFun e4 _).trans (updC_ne (by have h2 : x < _ + 2 := h2; omega))).trans (((congrFun e3 _).trans (updC_ne (by have h2 : x < _ + 2 := h2; omega))).trans (rfl)))))))))))))))))))) b2) (Blk.app' (n := 2) rfl (Blk.pres (fun x h1 h2 => ((congrFun e21 _).trans (updC_ne (by have h2 : x < _ + 2 := h2; omega))).trans ((p20 _ (by have h2 : x < _ + 2 := h2; omega)).trans (((congrFun e19 _).trans (updC_ne (by have h2 : x < _ + 2 := h2; omega))).trans (((congrFun e18 _).trans (updC_ne (by have h2 : x < _ + 2 := h2; omega))).trans ((p17 _ (by have h2 : x < _ + 2 := h2; omega)).trans (((congrFun e16 _).trans (updC_ne (by have h2 : x < _ + 2 := h2; omega))).trans (((congrFun e15 _).trans (updC_ne (by have h2 : x < _ + 2 := h2; omega))).trans ((p14 _ (by have h2 : x < _ + 2 := h2; omega)).trans (((congrFun e13 _).trans (updC_ne (by have h2 : x < _ + 2 := h2; omega))).trans (((congrFun e12 _).trans (updC_ne (by have h2 : x < _ + 2 := h2; omega))).trans ((p11 _ (by have h2 : x < _ + 2 := h2; omega)).trans (((congrFun e10 _).trans (updC_ne (by have h2 : x < _ + 2 := h2; omega))).trans (((congrFun e9 _).trans (updC_ne (by have h2 : x < _ + 2 := h2; omega))).trans ((p8 _ (by have h2 : x < _ + 2 := h2; omega)).trans (((congrFun e7 _).trans (updC_ne (by have h2 : x < _ + 2 := h2; omega))).trans (((congrFun e6 _).trans (updC_ne (by have h2 : x < _ + 2 := h2; omega))).trans (rfl))))))))))))))))) b5) (Blk.app' (n := 28) plan_len (Blk.pres (fun x h1 h2 => ((congrFun e21 _).trans (updC_ne (by rw [plan_len] at h2; omega))).trans ((p20 _ (by rw [plan_len] at h2; omega)).trans (((congrFun e19 _).trans (updC_ne (by rw [plan_len] at h2; omega))).trans (((congrFun e18 _).trans (updC_ne (by rw [plan_len] at h2; omega))).trans ((p17 _ (by rw [plan_len] at h2; omega)).trans (((congrFun e16 _).trans (updC_ne (by rw [plan_len] at h2; omega))).trans (((congrFun e15 _).trans (updC_ne (by rw [plan_len] at h2; omega))).trans ((p14 _ (by rw [plan_len] at h2; omega)).trans (((congrFun e13 _).trans (updC_ne (by rw [plan_len] at h2; omega))).trans (((congrFun e12 _).trans (updC_ne (by rw [plan_len] at h2; omega))).trans ((p11 _ (by rw [plan_len] at h2; omega)).trans (((congrFun e10 _).trans (updC_ne (by rw [plan_len] at h2; omega))).trans (((congrFun e9 _).trans (updC_ne (by rw [plan_len] at h2; omega))).trans (rfl)))))))))))))) b8) (Blk.app' (n := 28) plan_len (Blk.pres (fun x h1 h2 => ((congrFun e21 _).trans (updC_ne (by rw [plan_len] at h2; omega))).trans ((p20 _ (by rw [plan_len] at h2; omega)).trans (((congrFun e19 _).trans (updC_ne (by rw [plan_len] at h2; omega))).trans (((congrFun e18 _).trans (updC_ne (by rw [plan_len] at h2; omega))).trans ((p17 _ (by rw [plan_len] at h2; omega)).trans (((congrFun e16 _).trans (updC_ne (by rw [plan_len] at h2; omega))).trans (((congrFun e15 _).trans (updC_ne (by rw [plan_len] at h2; omega))).trans ((p14 _ (by rw [plan_len] at h2; omega)).trans (((congrFun e13 _).trans (updC_ne (by rw [plan_len] at h2; omega))).trans (((congrFun e12 _).trans (updC_ne (by rw [plan_len] at h2; omega))).trans (rfl))))))))))) b11) (Blk.app' (n := 2) rfl (Blk.pres (fun x h1 h2 => ((congrFun e21 _).trans (updC_ne (by have h2 : x < _ + 2 := h2; omega))).trans ((p20 _ (by have h2 : x < _ + 2 := h2; omega)).trans (((congrFun e19 _).trans (updC_ne (by have h2 : x < _ + 2 := h2; omega))).trans (((congrFun e18 _).trans (updC_ne (by have h2 : x < _ + 2 := h2; omega))).trans ((p17 _ (by have h2 : x < _ + 2 := h2; omega)).trans (((congrFun e16 _).trans (updC_ne (by have h2 : x < _ + 2 := h2; omega))).trans (((congrFun e15 _).trans (updC_ne (by have h2 : x < _ + 2 := h2; omega))).trans (rfl)))))))) b14) (Blk.app' (n := 442) hist_len (Blk.pres (fun x h1 h2 => ((congrFun e21 _).trans (updC_ne (by rw [hist_len] at h2; omega))).trans ((p20 _ (by rw [hist_len] at h2; omega)).trans (((congrFun e19 _).trans (updC_ne (by rw [hist_len] at h2; omega))).trans (((congrFun e18 _).trans (updC_ne (by rw [hist_len] at h2; omega))).trans (rfl))))) b17) (Blk.app' (n := 9) rfl (Blk.pres (fun x h1 h2 => ((congrFun e21 _).trans (updC_ne (by have h2 : x < _ + 9 := h2; omega))).trans (rfl)) b20) (trivial)))))))⟩⟩
def ModP_l (a : Nat) : List PC := (11, [.ref (a + 1), V (1), V (16), .int 0, .int 0, .ref (a + 2), .ref (a + 3), .ref (a + 4), .ref (a + 5), .ref (a + 6), .ref (a + 7), .ref (a + 8), .int 0, .ref (a + 9), .int 0, .int 0, .int 0, V (-1), .int 0, .int 0, .int 0, .long 0]) :: ((100, List.replicate 8740 (.int 0)) :: ((102, List.replicate 40 (.int 0)) :: ((100, List.replicate 4 (.int 0)) :: ((100, List.replicate 65 (.int 0)) :: ((100, List.replicate 65 (.int 0)) :: ((100, List.replicate 65 (.int 0)) :: ((102, List.replicate 2600 (.int 0)) :: ((100, List.replicate 60 (.int 0)) :: ((101, List.replicate 1600 (.int 0)) :: ([]))))))))))
def Zm : St := u (u (u Z0 514 1 1) 514 2 16) 514 17 (-1)
def mod_l (a : Nat) (S1 : St) : List PC := (List.range 10).map (fun j => cS S1 (a + j))
theorem mod_len {a : Nat} {S1 : St} : (mod_l a S1).length = 10 := by unfold mod_l; rw [List.length_map, List.length_range]
theorem mod_cl : ∀ x, x < 524 → 514 ≤ x → (∀ q ∈ fkT, kd x = q.1 → 514 ≤ tgt x q.2.1 ∧ tgt x q.2.1 < 524) ∧ kd x ≠ 105 := by decide +kernel
theorem sl_rep {S : St} {a n : Nat} {v : Value} (hk : Nat.ble 100 (kd a) = true) (hl : ln a = n) (hv : ∀ i, i < n → av S a i = v) : sl S a = List.replicate n v := by
  have hk := Nat.ble_eq.mp hk
  unfold sl
  rw [if_neg (by omega), hl, List.map_congr_left (g := fun _ => v) (fun i hi => hv i (List.mem_range.mp hi)), List.map_const', List.length_range]
theorem cS_rep {S : St} {a n t : Nat} {v : Value} (hk : kd a = 100 + t) (hl : ln a = n) (hv : ∀ i, i < n → av S a i = v) : (100 + t, List.replicate n v) = cS S a := by
  unfold cS
  rw [sl_rep (by rw [hk]; exact Nat.ble_eq.mpr (by omega)) hl hv, hk]
theorem modZ : ∀ j, j < 10 → (ModP_l 514)[j]? = some (cS Zm (514 + j)) := by
  intro j hj
  match j with
  | 0 => rfl
  | 1 => exact congrArg some (cS_rep (t := 0) rfl rfl (fun i _ => rfl))
  | 2 => exact congrArg some (cS_rep (t := 2) rfl rfl (fun i _ => rfl))
  | 3 => exact congrArg some (cS_rep (t := 0) rfl rfl (fun i _ => rfl))
  | 4 => exact congrArg some (cS_rep (t := 0) rfl rfl (fun i _ => rfl))
  | 5 => exact congrArg some (cS_rep (t := 0) rfl rfl (fun i _ => rfl))
  | 6 => exact congrArg some (cS_rep (t := 0) rfl rfl (fun i _ => rfl))
  | 7 => exact congrArg some (cS_rep (t := 2) rfl rfl (fun i _ => rfl))
  | 8 => exact congrArg some (cS_rep (t := 0) rfl rfl (fun i _ => rfl))
  | 9 => exact congrArg some (cS_rep (t := 1) rfl rfl (fun i _ => rfl))
  | n + 10 => omega
theorem mod_end {E : EV} {C Cn : Nat → PC} {a : Nat} {S1 : St} (ha : a = 514) (hfn : fn_Mo_clearBlock a 0 Zm = some S1) (hb : Blk Cn a (ModP_l a)) (hp : ∀ x, x < a → Cn x = C x) :
    Go E M_Mo_init 9 13239 96 [(0, .ref a)] [V 0, .ref a] (wdC (a + 10) Cn, true) 9 13239 (Post a C (mod_l a S1)) := by
  have hz : ∀ j, j < 10 → Cn (a + j) = cS Zm (a + j) := by
    subst ha
    exact fun j hj => hb.at (modZ j hj)
  have hc : HC (mkX a 10 Cn) 11 a := by
    refine ⟨?_, by show a < a + 10; omega, Nat.ble_eq.mpr (Nat.le_refl _), ?_⟩
    · subst ha
      exact mkX_cl (Nat.le_of_ble_eq_true rfl) mod_cl
    · subst ha; rfl
  rw [← mkX_w hz]
  refine vg_cV (pc := 96) (As := [V 0]) (rest := []) (mc' := 0) (ms' := 0) (dK D_Mo_init_0 49 rfl) K_Mo_49 (fitK rfl) (ltK rfl) hc rfl (leK rfl) (leK rfl) (leK rfl) (tf_Mo_clearBlock hc (inRk rfl) hfn) (kcU ?_)
  refine g_return (pc := 99) (dK D_Mo_init_1 0 rfl) rfl (leK rfl) (leK rfl) (fun _ => rfl) ⟨rfl, (fun x => if Nat.ble a x = true then cS S1 x else Cn x), ?_, ?_, Blk.of (fun j hj => ?_)⟩
  · rw [mod_len]; exact mkX_o
  · intro x hx
    show (if Nat.ble a x = true then cS S1 x else Cn x) = C x
    rw [if_neg (fun z => by have := Nat.ble_eq.mp z; omega)]
    exact hp x hx
  · show (if Nat.ble a (a + j) = true then cS S1 (a + j) else Cn (a + j)) = _
    rw [if_pos (Nat.ble_eq.mpr (by omega))]

theorem ct_ModP {E : EV} {C : Nat → PC} {a : Nat} (hx : a + 10 < 2000) (h0 : C a = (11, dfl 11)) {S1 : St} (ha : a = 514) (hfn : fn_Mo_clearBlock a 0 Zm = some S1) : Ev E M_Mo_init [.ref a] (wdC (a + 1) C, true) 9 13239 (Post a C (mod_l a S1)) := by
  refine Ev.of pn_Mo rfl (leK rfl) ?_
  show Go E M_Mo_init 9 13239 0 [(0, .ref a)] [] (wdC (a + 1) C, true) 0 0 (Post a C (mod_l a S1))
  have h0 : C a = (11, [.null, .int 0, .int 0, .int 0, .int 0, .null, .null, .null, .null, .null, .null, .null, .int 0, .null, .int 0, .int 0, .int 0, .int 0, .int 0, .int 0, .int 0, .long 0]) := h0
  refine g_aloadn (pc := 0) (i0 := 0) (j := 0) (dK D_Mo_init_0 0 rfl) rfl rfl ?_
  refine g_objinit (pc := 1) (dK D_Mo_init_0 1 rfl) q_1434 (leK rfl) (leK rfl) (leK rfl) ?_
  refine g_aloadn (pc := 4) (i0 := 0) (j := 0) (dK D_Mo_init_0 2 rfl) rfl rfl ?_
  refine vg_sipush' (pc := 5) (dK D_Mo_init_0 3 rfl) rfl ?_
  obtain ⟨C1, e1⟩ : ∃ D : Nat → PC, D = updC C (a + 1) (100, List.replicate 8740 (.int 0)) := ⟨_, rfl⟩
  refine c_newarr_int (pc := 8) (M := 8740) (N1 := (a + 2)) (dK D_Mo_init_0 4 rfl) rfl (leK rfl) (leK rfl) (by unfold XB; omega) rfl e1 ?_
  have f1 : C1 a = (11, [.null, .int 0, .int 0, .int 0, .int 0, .null, .null, .null, .null, .null, .null, .null, .int 0, .null, .int 0, .int 0, .int 0, .int 0, .int 0, .int 0, .int 0, .long 0]) := by rw [e1, updC_ne (by omega)]; exact h0
  obtain ⟨C2, e2⟩ : ∃ D : Nat → PC, D = updC C1 a (11, [.ref (a + 1), .int 0, .int 0, .int 0, .int 0, .null, .null, .null, .null, .null, .null, .null, .int 0, .null, .int 0, .int 0, .int 0, .int 0, .int 0, .int 0, .int 0, .long 0]) := ⟨_, rfl⟩
  refine c_putF (pc := 10) (ci := 11) (f := 0) (dK D_Mo_init_0 5 rfl) q_1439 (ltK rfl) (ltK rfl) rfl rfl rfl (okV_arr _ _) (by omega) (by unfold XB; omega) f1 (ltK rfl) rfl e2 ?_
  have f2 : C2 a = (11, [.ref (a + 1), .int 0, .int 0, .int 0, .int 0, .null, .null, .null, .null, .null, .null, .null, .int 0, .null, .int 0, .int 0, .int 0, .int 0, .int 0, .int 0, .int 0, .long 0]) := by rw [e2]; exact updC_eq
  refine g_aloadn (pc := 13) (i0 := 0) (j := 0) (dK D_Mo_init_0 6 rfl) rfl rfl ?_
  refine vg_iconst' (pc := 14) (dK D_Mo_init_0 7 rfl) ?_
  obtain ⟨C3, e3⟩ : ∃ D : Nat → PC, D = updC C2 a (11, [.ref (a + 1), V (1), .int 0, .int 0, .int 0, .null, .null, .null, .null, .null, .null, .null, .int 0, .null, .int 0, .int 0, .int 0, .int 0, .int 0, .int 0, .int 0, .long 0]) := ⟨_, rfl⟩
  refine c_put (pc := 15) (ci := 11) (f := 1) (dK D_Mo_init_0 8 rfl) q_1440 (ltK rfl) (ltK rfl) rfl (okV_int _) (by omega) (by unfold XB; omega) f2 (ltK rfl) rfl e3 ?_
  have f3 : C3 a = (11, [.ref (a + 1), V (1), .int 0, .int 0, .int 0, .null, .null, .null, .null, .null, .null, .null, .int 0, .null, .int 0, .int 0, .int 0, .int 0, .int 0, .int 0, .int 0, .long 0]) := by rw [e3]; exact updC_eq
  refine g_aloadn (pc := 18) (i0 := 0) (j := 0) (dK D_Mo_init_0 9 rfl) rfl rfl ?_
  refine vg_bipush' (pc := 19) (dK D_Mo_init_0 10 rfl) rfl ?_
  obtain ⟨C4, e4⟩ : ∃ D : Nat → PC, D = updC C3 a (11, [.ref (a + 1), V (1), V (16), .int 0, .int 0, .null, .null, .null, .null, .null, .null, .null, .int 0, .null, .int 0, .int 0, .int 0, .int 0, .int 0, .int 0, .int 0, .long 0]) := ⟨_, rfl⟩
  refine c_put (pc := 21) (ci := 11) (f := 2) (dK D_Mo_init_0 11 rfl) q_1441 (ltK rfl) (ltK rfl) rfl (okV_int _) (by omega) (by unfold XB; omega) f3 (ltK rfl) rfl e4 ?_
  have f4 : C4 a = (11, [.ref (a + 1), V (1), V (16), .int 0, .int 0, .null, .null, .null, .null, .null, .null, .null, .int 0, .null, .int 0, .int 0, .int 0, .int 0, .int 0, .int 0, .int 0, .long 0]) := by rw [e4]; exact updC_eq
  refine g_aloadn (pc := 24) (i0 := 0) (j := 0) (dK D_Mo_init_0 12 rfl) rfl rfl ?_
  refine vg_bipush' (pc := 25) (dK D_Mo_init_0 13 rfl) rfl ?_
  obtain ⟨C5, e5⟩ : ∃ D : Nat → PC, D = updC C4 (a + 2) (102, List.replicate 40 (.int 0)) := ⟨_, rfl⟩
  refine c_newarr_bool (pc := 27) (M := 40) (N1 := (a + 3)) (dK D_Mo_init_0 14 rfl) rfl (leK rfl) (leK rfl) (by unfold XB; omega) rfl e5 ?_
  have f5 : C5 a = (11, [.ref (a + 1), V (1), V (16), .int 0, .int 0, .null, .null, .null, .null, .null, .null, .null, .int 0, .null, .int 0, .int 0, .int 0, .int 0, .int 0, .int 0, .int 0, .long 0]) := by rw [e5, updC_ne (by omega)]; exact f4
  obtain ⟨C6, e6⟩ : ∃ D : Nat → PC, D = updC C5 a (11, [.ref (a + 1), V (1), V (16), .int 0, .int 0, .ref (a + 2), .null, .null, .null, .null, .null, .null, .int 0, .null, .int 0, .int 0, .int 0, .int 0, .int 0, .int 0, .int 0, .long 0]) := ⟨_, rfl⟩
  refine c_putF (pc := 29) (ci := 11) (f := 5) (dK D_Mo_init_0 15 rfl) q_1444 (ltK rfl) (ltK rfl) rfl rfl rfl (okV_arr _ _) (by omega) (by unfold XB; omega) f5 (ltK rfl) rfl e6 ?_
  have f6 : C6 a = (11, [.ref (a + 1), V (1), V (16), .int 0, .int 0, .ref (a + 2), .null, .null, .null, .null, .null, .null, .int 0, .null, .int 0, .int 0, .int 0, .int 0, .int 0, .int 0, .int 0, .long 0]) := by rw [e6]; exact updC_eq
  refine g_aloadn (pc := 32) (i0 := 0) (j := 0) (dK D_Mo_init_0 16 rfl) rfl rfl ?_
  refine vg_iconst' (pc := 33) (dK D_Mo_init_0 17 rfl) ?_
  obtain ⟨C7, e7⟩ : ∃ D : Nat → PC, D = updC C6 (a + 3) (100, List.replicate 4 (.int 0)) := ⟨_, rfl⟩
  refine c_newarr_int (pc := 34) (M := 4) (N1 := (a + 4)) (dK D_Mo_init_0 18 rfl) rfl (leK rfl) (leK rfl) (by unfold XB; omega) rfl e7 ?_
  have f7 : C7 a = (11, [.ref (a + 1), V (1), V (16), .int 0, .int 0, .ref (a + 2), .null, .null, .null, .null, .null, .null, .int 0, .null, .int 0, .int 0, .int 0, .int 0, .int 0, .int 0, .int 0, .long 0]) := by rw [e7, updC_ne (by omega)]; exact f6
  obtain ⟨C8, e8⟩ : ∃ D : Nat → PC, D = updC C7 a (11, [.ref (a + 1), V (1), V (16), .int 0, .int 0, .ref (a + 2), .ref (a + 3), .null, .null, .null, .null, .null, .int 0, .null, .int 0, .int 0, .int 0, .int 0, .int 0, .int 0, .int 0, .long 0]) := ⟨_, rfl⟩
  refine c_putF (pc := 36) (ci := 11) (f := 6) (dK D_Mo_init_0 19 rfl) q_1445 (ltK rfl) (ltK rfl) rfl rfl rfl (okV_arr _ _) (by omega) (by unfold XB; omega) f7 (ltK rfl) rfl e8 ?_
  have f8 : C8 a = (11, [.ref (a + 1), V (1), V (16), .int 0, .int 0, .ref (a + 2), .ref (a + 3), .null, .null, .null, .null, .null, .int 0, .null, .int 0, .int 0, .int 0, .int 0, .int 0, .int 0, .int 0, .long 0]) := by rw [e8]; exact updC_eq
  refine g_aloadn (pc := 39) (i0 := 0) (j := 0) (dK D_Mo_init_0 20 rfl) rfl rfl ?_
  refine vg_bipush' (pc := 40) (dK D_Mo_init_0 21 rfl) rfl ?_
  obtain ⟨C9, e9⟩ : ∃ D : Nat → PC, D = updC C8 (a + 4) (100, List.replicate 65 (.int 0)) := ⟨_, rfl⟩
  refine c_newarr_int (pc := 42) (M := 65) (N1 := (a + 5)) (dK D_Mo_init_0 22 rfl) rfl (leK rfl) (leK rfl) (by unfold XB; omega) rfl e9 ?_
  have f9 : C9 a = (11, [.ref (a + 1), V (1), V (16), .int 0, .int 0, .ref (a + 2), .ref (a + 3), .null, .null, .null, .null, .null, .int 0, .null, .int 0, .int 0, .int 0, .int 0, .int 0, .int 0, .int 0, .long 0]) := by rw [e9, updC_ne (by omega)]; exact f8
  obtain ⟨C10, e10⟩ : ∃ D : Nat → PC, D = updC C9 a (11, [.ref (a + 1), V (1), V (16), .int 0, .int 0, .ref (a + 2), .ref (a + 3), .ref (a + 4), .null, .null, .null, .null, .int 0, .null, .int 0, .int 0, .int 0, .int 0, .int 0, .int 0, .int 0, .long 0]) := ⟨_, rfl⟩
  refine c_putF (pc := 44) (ci := 11) (f := 7) (dK D_Mo_init_0 23 rfl) q_1446 (ltK rfl) (ltK rfl) rfl rfl rfl (okV_arr _ _) (by omega) (by unfold XB; omega) f9 (ltK rfl) rfl e10 ?_
  have f10 : C10 a = (11, [.ref (a + 1), V (1), V (16), .int 0, .int 0, .ref (a + 2), .ref (a + 3), .ref (a + 4), .null, .null, .null, .null, .int 0, .null, .int 0, .int 0, .int 0, .int 0, .int 0, .int 0, .int 0, .long 0]) := by rw [e10]; exact updC_eq
  refine g_aloadn (pc := 47) (i0 := 0) (j := 0) (dK D_Mo_init_0 24 rfl) rfl rfl ?_
  refine vg_bipush' (pc := 48) (dK D_Mo_init_0 25 rfl) rfl ?_
  obtain ⟨C11, e11⟩ : ∃ D : Nat → PC, D = updC C10 (a + 5) (100, List.replicate 65 (.int 0)) := ⟨_, rfl⟩
  refine c_newarr_int (pc := 50) (M := 65) (N1 := (a + 6)) (dK D_Mo_init_0 26 rfl) rfl (leK rfl) (leK rfl) (by unfold XB; omega) rfl e11 ?_
  have f11 : C11 a = (11, [.ref (a + 1), V (1), V (16), .int 0, .int 0, .ref (a + 2), .ref (a + 3), .ref (a + 4), .null, .null, .null, .null, .int 0, .null, .int 0, .int 0, .int 0, .int 0, .int 0, .int 0, .int 0, .long 0]) := by rw [e11, updC_ne (by omega)]; exact f10
  obtain ⟨C12, e12⟩ : ∃ D : Nat → PC, D = updC C11 a (11, [.ref (a + 1), V (1), V (16), .int 0, .int 0, .ref (a + 2), .ref (a + 3), .ref (a + 4), .ref (a + 5), .null, .null, .null, .int 0, .null, .int 0, .int 0, .int 0, .int 0, .int 0, .int 0, .int 0, .long 0]) := ⟨_, rfl⟩
  refine c_putF (pc := 52) (ci := 11) (f := 8) (dK D_Mo_init_0 27 rfl) q_1447 (ltK rfl) (ltK rfl) rfl rfl rfl (okV_arr _ _) (by omega) (by unfold XB; omega) f11 (ltK rfl) rfl e12 ?_
  have f12 : C12 a = (11, [.ref (a + 1), V (1), V (16), .int 0, .int 0, .ref (a + 2), .ref (a + 3), .ref (a + 4), .ref (a + 5), .null, .null, .null, .int 0, .null, .int 0, .int 0, .int 0, .int 0, .int 0, .int 0, .int 0, .long 0]) := by rw [e12]; exact updC_eq
  refine g_aloadn (pc := 55) (i0 := 0) (j := 0) (dK D_Mo_init_0 28 rfl) rfl rfl ?_
  refine vg_bipush' (pc := 56) (dK D_Mo_init_0 29 rfl) rfl ?_
  obtain ⟨C13, e13⟩ : ∃ D : Nat → PC, D = updC C12 (a + 6) (100, List.replicate 65 (.int 0)) := ⟨_, rfl⟩
  refine c_newarr_int (pc := 58) (M := 65) (N1 := (a + 7)) (dK D_Mo_init_0 30 rfl) rfl (leK rfl) (leK rfl) (by unfold XB; omega) rfl e13 ?_
  have f13 : C13 a = (11, [.ref (a + 1), V (1), V (16), .int 0, .int 0, .ref (a + 2), .ref (a + 3), .ref (a + 4), .ref (a + 5), .null, .null, .null, .int 0, .null, .int 0, .int 0, .int 0, .int 0, .int 0, .int 0, .int 0, .long 0]) := by rw [e13, updC_ne (by omega)]; exact f12
  obtain ⟨C14, e14⟩ : ∃ D : Nat → PC, D = updC C13 a (11, [.ref (a + 1), V (1), V (16), .int 0, .int 0, .ref (a + 2), .ref (a + 3), .ref (a + 4), .ref (a + 5), .ref (a + 6), .null, .null, .int 0, .null, .int 0, .int 0, .int 0, .int 0, .int 0, .int 0, .int 0, .long 0]) := ⟨_, rfl⟩
  refine c_putF (pc := 60) (ci := 11) (f := 9) (dK D_Mo_init_0 31 rfl) q_1448 (ltK rfl) (ltK rfl) rfl rfl rfl (okV_arr _ _) (by omega) (by unfold XB; omega) f13 (ltK rfl) rfl e14 ?_
  have f14 : C14 a = (11, [.ref (a + 1), V (1), V (16), .int 0, .int 0, .ref (a + 2), .ref (a + 3), .ref (a + 4), .ref (a + 5), .ref (a + 6), .null, .null, .int 0, .null, .int 0, .int 0, .int 0, .int 0, .int 0, .int 0, .int 0, .long 0]) := by rw [e14]; exact updC_eq
  refine g_aloadn (pc := 63) (i0 := 0) (j := 0) (dK D_Mo_init_0 32 rfl) rfl rfl ?_
  refine vg_sipush' (pc := 64) (dK D_Mo_init_0 33 rfl) rfl ?_
  obtain ⟨C15, e15⟩ : ∃ D : Nat → PC, D = updC C14 (a + 7) (102, List.replicate 2600 (.int 0)) := ⟨_, rfl⟩
  refine c_newarr_bool (pc := 67) (M := 2600) (N1 := (a + 8)) (dK D_Mo_init_0 34 rfl) rfl (leK rfl) (leK rfl) (by unfold XB; omega) rfl e15 ?_
  have f15 : C15 a = (11, [.ref (a + 1), V (1), V (16), .int 0, .int 0, .ref (a + 2), .ref (a + 3), .ref (a + 4), .ref (a + 5), .ref (a + 6), .null, .null, .int 0, .null, .int 0, .int 0, .int 0, .int 0, .int 0, .int 0, .int 0, .long 0]) := by rw [e15, updC_ne (by omega)]; exact f14
  obtain ⟨C16, e16⟩ : ∃ D : Nat → PC, D = updC C15 a (11, [.ref (a + 1), V (1), V (16), .int 0, .int 0, .ref (a + 2), .ref (a + 3), .ref (a + 4), .ref (a + 5), .ref (a + 6), .ref (a + 7), .null, .int 0, .null, .int 0, .int 0, .int 0, .int 0, .int 0, .int 0, .int 0, .long 0]) := ⟨_, rfl⟩
  refine c_putF (pc := 69) (ci := 11) (f := 10) (dK D_Mo_init_0 35 rfl) q_1449 (ltK rfl) (ltK rfl) rfl rfl rfl (okV_arr _ _) (by omega) (by unfold XB; omega) f15 (ltK rfl) rfl e16 ?_
  have f16 : C16 a = (11, [.ref (a + 1), V (1), V (16), .int 0, .int 0, .ref (a + 2), .ref (a + 3), .ref (a + 4), .ref (a + 5), .ref (a + 6), .ref (a + 7), .null, .int 0, .null, .int 0, .int 0, .int 0, .int 0, .int 0, .int 0, .int 0, .long 0]) := by rw [e16]; exact updC_eq
  refine g_aloadn (pc := 72) (i0 := 0) (j := 0) (dK D_Mo_init_0 36 rfl) rfl rfl ?_
  refine vg_bipush' (pc := 73) (dK D_Mo_init_0 37 rfl) rfl ?_
  obtain ⟨C17, e17⟩ : ∃ D : Nat → PC, D = updC C16 (a + 8) (100, List.replicate 60 (.int 0)) := ⟨_, rfl⟩
  refine c_newarr_int (pc := 75) (M := 60) (N1 := (a + 9)) (dK D_Mo_init_0 38 rfl) rfl (leK rfl) (leK rfl) (by unfold XB; omega) rfl e17 ?_
  have f17 : C17 a = (11, [.ref (a + 1), V (1), V (16), .int 0, .int 0, .ref (a + 2), .ref (a + 3), .ref (a + 4), .ref (a + 5), .ref (a + 6), .ref (a + 7), .null, .int 0, .null, .int 0, .int 0, .int 0, .int 0, .int 0, .int 0, .int 0, .long 0]) := by rw [e17, updC_ne (by omega)]; exact f16
  obtain ⟨C18, e18⟩ : ∃ D : Nat → PC, D = updC C17 a (11, [.ref (a + 1), V (1), V (16), .int 0, .int 0, .ref (a + 2), .ref (a + 3), .ref (a + 4), .ref (a + 5), .ref (a + 6), .ref (a + 7), .ref (a + 8), .int 0, .null, .int 0, .int 0, .int 0, .int 0, .int 0, .int 0, .int 0, .long 0]) := ⟨_, rfl⟩
  refine c_putF (pc := 77) (ci := 11) (f := 11) (dK D_Mo_init_0 39 rfl) q_1450 (ltK rfl) (ltK rfl) rfl rfl rfl (okV_arr _ _) (by omega) (by unfold XB; omega) f17 (ltK rfl) rfl e18 ?_
  have f18 : C18 a = (11, [.ref (a + 1), V (1), V (16), .int 0, .int 0, .ref (a + 2), .ref (a + 3), .ref (a + 4), .ref (a + 5), .ref (a + 6), .ref (a + 7), .ref (a + 8), .int 0, .null, .int 0, .int 0, .int 0, .int 0, .int 0, .int 0, .int 0, .long 0]) := by rw [e18]; exact updC_eq
  refine g_aloadn (pc := 80) (i0 := 0) (j := 0) (dK D_Mo_init_0 40 rfl) rfl rfl ?_
  refine vg_sipush' (pc := 81) (dK D_Mo_init_0 41 rfl) rfl ?_
  obtain ⟨C19, e19⟩ : ∃ D : Nat → PC, D = updC C18 (a + 9) (101, List.replicate 1600 (.int 0)) := ⟨_, rfl⟩
  refine c_newarr_byte (pc := 84) (M := 1600) (N1 := (a + 10)) (dK D_Mo_init_0 42 rfl) rfl (leK rfl) (leK rfl) (by unfold XB; omega) rfl e19 ?_
  have f19 : C19 a = (11, [.ref (a + 1), V (1), V (16), .int 0, .int 0, .ref (a + 2), .ref (a + 3), .ref (a + 4), .ref (a + 5), .ref (a + 6), .ref (a + 7), .ref (a + 8), .int 0, .null, .int 0, .int 0, .int 0, .int 0, .int 0, .int 0, .int 0, .long 0]) := by rw [e19, updC_ne (by omega)]; exact f18
  obtain ⟨C20, e20⟩ : ∃ D : Nat → PC, D = updC C19 a (11, [.ref (a + 1), V (1), V (16), .int 0, .int 0, .ref (a + 2), .ref (a + 3), .ref (a + 4), .ref (a + 5), .ref (a + 6), .ref (a + 7), .ref (a + 8), .int 0, .ref (a + 9), .int 0, .int 0, .int 0, .int 0, .int 0, .int 0, .int 0, .long 0]) := ⟨_, rfl⟩
  refine c_putF (pc := 86) (ci := 11) (f := 13) (dK D_Mo_init_0 43 rfl) q_1452 (ltK rfl) (ltK rfl) rfl rfl rfl (okV_arr _ _) (by omega) (by unfold XB; omega) f19 (ltK rfl) rfl e20 ?_
  have f20 : C20 a = (11, [.ref (a + 1), V (1), V (16), .int 0, .int 0, .ref (a + 2), .ref (a + 3), .ref (a + 4), .ref (a + 5), .ref (a + 6), .ref (a + 7), .ref (a + 8), .int 0, .ref (a + 9), .int 0, .int 0, .int 0, .int 0, .int 0, .int 0, .int 0, .long 0]) := by rw [e20]; exact updC_eq
  refine g_aloadn (pc := 89) (i0 := 0) (j := 0) (dK D_Mo_init_0 44 rfl) rfl rfl ?_
  refine vg_iconst' (pc := 90) (dK D_Mo_init_0 45 rfl) ?_
  obtain ⟨C21, e21⟩ : ∃ D : Nat → PC, D = updC C20 a (11, [.ref (a + 1), V (1), V (16), .int 0, .int 0, .ref (a + 2), .ref (a + 3), .ref (a + 4), .ref (a + 5), .ref (a + 6), .ref (a + 7), .ref (a + 8), .int 0, .ref (a + 9), .int 0, .int 0, .int 0, V (-1), .int 0, .int 0, .int 0, .long 0]) := ⟨_, rfl⟩
  refine c_put (pc := 91) (ci := 11) (f := 17) (dK D_Mo_init_0 46 rfl) q_1456 (ltK rfl) (ltK rfl) rfl (okV_int _) (by omega) (by unfold XB; omega) f20 (ltK rfl) rfl e21 ?_
  have f21 : C21 a = (11, [.ref (a + 1), V (1), V (16), .int 0, .int 0, .ref (a + 2), .ref (a + 3), .ref (a + 4), .ref (a + 5), .ref (a + 6), .ref (a + 7), .ref (a + 8), .int 0, .ref (a + 9), .int 0, .int 0, .int 0, V (-1), .int 0, .int 0, .int 0, .long 0]) := by rw [e21]; exact updC_eq
  refine g_aloadn (pc := 94) (i0 := 0) (j := 0) (dK D_Mo_init_0 47 rfl) rfl rfl ?_
  refine vg_iconst' (pc := 95) (dK D_Mo_init_0 48 rfl) ?_
  have hb : Blk C21 a (ModP_l a) := ⟨f21, ⟨((congrFun e21 _).trans (updC_ne (by omega))).trans (((congrFun e20 _).trans (updC_ne (by omega))).trans (((congrFun e19 _).trans (updC_ne (by omega))).trans (((congrFun e18 _).trans (updC_ne (by omega))).trans (((congrFun e17 _).trans (updC_ne (by omega))).trans (((congrFun e16 _).trans (updC_ne (by omega))).trans (((congrFun e15 _).trans (updC_ne (by omega))).trans (((congrFun e14 _).trans (updC_ne (by omega))).trans (((congrFun e13 _).trans (updC_ne (by omega))).trans (((congrFun e12 _).trans (updC_ne (by omega))).trans (((congrFun e11 _).trans (updC_ne (by omega))).trans (((congrFun e10 _).trans (updC_ne (by omega))).trans (((congrFun e9 _).trans (updC_ne (by omega))).trans (((congrFun e8 _).trans (updC_ne (by omega))).trans (((congrFun e7 _).trans (updC_ne (by omega))).trans (((congrFun e6 _).trans (updC_ne (by omega))).trans (((congrFun e5 _).trans (updC_ne (by omega))).trans (((congrFun e4 _).trans (updC_ne (by omega))).trans (((congrFun e3 _).trans (updC_ne (by omega))).trans (((congrFun e2 _).trans (updC_ne (by omega))).trans ((congrFun e1 _).trans updC_eq)))))))))))))))))))), ⟨((congrFun e21 _).trans (updC_ne (by omega))).trans (((congrFun e20 _).trans (updC_ne (by omega))).trans (((congrFun e19 _).trans (updC_ne (by omega))).trans (((congrFun e18 _).trans (updC_ne (by omega))).trans (((congrFun e17 _).trans (updC_ne (by omega))).trans (((congrFun e16 _).trans (updC_ne (by omega))).trans (((congrFun e15 _).trans (updC_ne (by omega))).trans (((congrFun e14 _).trans (updC_ne (by omega))).trans (((congrFun e13 _).trans (updC_ne (by omega))).trans (((congrFun e12 _).trans (updC_ne (by omega))).trans (((congrFun e11 _).trans (updC_ne (by omega))).trans (((congrFun e10 _).trans (updC_ne (by omega))).trans (((congrFun e9 _).trans (updC_ne (by omega))).trans (((congrFun e8 _).trans (updC_ne (by omega))).trans (((congrFun e7 _).trans (updC_ne (by omega))).trans (((congrFun e6 _).trans (updC_ne (by omega))).trans ((congrFun e5 _).trans updC_eq)))))))))))))))), ⟨((congrFun e21 _).trans (updC_ne (by omega))).trans (((congrFun e20 _).trans (updC_ne (by omega))).trans (((congrFun e19 _).trans (updC_ne (by omega))).trans (((congrFun e18 _).trans (updC_ne (by omega))).trans (((congrFun e17 _).trans (updC_ne (by omega))).trans (((congrFun e16 _).trans (updC_ne (by omega))).trans (((congrFun e15 _).trans (updC_ne (by omega))).trans (((congrFun e14 _).trans (updC_ne (by omega))).trans (((congrFun e13 _).trans (updC_ne (by omega))).trans (((congrFun e12 _).trans (updC_ne (by omega))).trans (((congrFun e11 _).trans (updC_ne (by omega))).trans (((congrFun e10 _).trans (updC_ne (by omega))).trans (((congrFun e9 _).trans (updC_ne (by omega))).trans (((congrFun e8 _).trans (updC_ne (by omega))).trans ((congrFun e7 _).trans updC_eq)))))))))))))), ⟨((congrFun e21 _).trans (updC_ne (by omega))).trans (((congrFun e20 _).trans (updC_ne (by omega))).trans (((congrFun e19 _).trans (updC_ne (by omega))).trans (((congrFun e18 _).trans (updC_ne (by omega))).trans (((congrFun e17 _).trans (updC_ne (by omega))).trans (((congrFun e16 _).trans (updC_ne (by omega))).trans (((congrFun e15 _).trans (updC_ne (by omega))).trans (((congrFun e14 _).trans (updC_ne (by omega))).trans (((congrFun e13 _).trans (updC_ne (by omega))).trans (((congrFun e12 _).trans (updC_ne (by omega))).trans (((congrFun e11 _).trans (updC_ne (by omega))).trans (((congrFun e10 _).trans (updC_ne (by omega))).trans ((congrFun e9 _).trans updC_eq)))))))))))), ⟨((congrFun e21 _).trans (updC_ne (by omega))).trans (((congrFun e20 _).trans (updC_ne (by omega))).trans (((congrFun e19 _).trans (updC_ne (by omega))).trans (((congrFun e18 _).trans (updC_ne (by omega))).trans (((congrFun e17 _).trans (updC_ne (by omega))).trans (((congrFun e16 _).trans (updC_ne (by omega))).trans (((congrFun e15 _).trans (updC_ne (by omega))).trans (((congrFun e14 _).trans (updC_ne (by omega))).trans (((congrFun e13 _).trans (updC_ne (by omega))).trans (((congrFun e12 _).trans (updC_ne (by omega))).trans ((congrFun e11 _).trans updC_eq)))))))))), ⟨((congrFun e21 _).trans (updC_ne (by omega))).trans (((congrFun e20 _).trans (updC_ne (by omega))).trans (((congrFun e19 _).trans (updC_ne (by omega))).trans (((congrFun e18 _).trans (updC_ne (by omega))).trans (((congrFun e17 _).trans (updC_ne (by omega))).trans (((congrFun e16 _).trans (updC_ne (by omega))).trans (((congrFun e15 _).trans (updC_ne (by omega))).trans (((congrFun e14 _).trans (updC_ne (by omega))).trans ((congrFun e13 _).trans updC_eq)))))))), ⟨((congrFun e21 _).trans (updC_ne (by omega))).trans (((congrFun e20 _).trans (updC_ne (by omega))).trans (((congrFun e19 _).trans (updC_ne (by omega))).trans (((congrFun e18 _).trans (updC_ne (by omega))).trans (((congrFun e17 _).trans (updC_ne (by omega))).trans (((congrFun e16 _).trans (updC_ne (by omega))).trans ((congrFun e15 _).trans updC_eq)))))), ⟨((congrFun e21 _).trans (updC_ne (by omega))).trans (((congrFun e20 _).trans (updC_ne (by omega))).trans (((congrFun e19 _).trans (updC_ne (by omega))).trans (((congrFun e18 _).trans (updC_ne (by omega))).trans ((congrFun e17 _).trans updC_eq)))), ⟨((congrFun e21 _).trans (updC_ne (by omega))).trans (((congrFun e20 _).trans (updC_ne (by omega))).trans ((congrFun e19 _).trans updC_eq)), trivial⟩⟩⟩⟩⟩⟩⟩⟩⟩⟩
  have hp : ∀ x, x < a → C21 x = C x := fun x hx => ((congrFun e21 _).trans (updC_ne (by omega))).trans (((congrFun e20 _).trans (updC_ne (by omega))).trans (((congrFun e19 _).trans (updC_ne (by omega))).trans (((congrFun e18 _).trans (updC_ne (by omega))).trans (((congrFun e17 _).trans (updC_ne (by omega))).trans (((congrFun e16 _).trans (updC_ne (by omega))).trans (((congrFun e15 _).trans (updC_ne (by omega))).trans (((congrFun e14 _).trans (updC_ne (by omega))).trans (((congrFun e13 _).trans (updC_ne (by omega))).trans (((congrFun e12 _).trans (updC_ne (by omega))).trans (((congrFun e11 _).trans (updC_ne (by omega))).trans (((congrFun e10 _).trans (updC_ne (by omega))).trans (((congrFun e9 _).trans (updC_ne (by omega))).trans (((congrFun e8 _).trans (updC_ne (by omega))).trans (((congrFun e7 _).trans (updC_ne (by omega))).trans (((congrFun e6 _).trans (updC_ne (by omega))).trans (((congrFun e5 _).trans (updC_ne (by omega))).trans (((congrFun e4 _).trans (updC_ne (by omega))).trans (((congrFun e3 _).trans (updC_ne (by omega))).trans (((congrFun e2 _).trans (updC_ne (by omega))).trans (((congrFun e1 _).trans (updC_ne (by omega))).trans (rfl)))))))))))))))))))))
  exact mod_end ha hfn hb hp
