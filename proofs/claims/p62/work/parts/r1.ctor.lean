/-! CONSTRUCTORS: worlds of nCell cells, told by a function -/
def wdC (N : Nat) (C : Nat → PC) : List PC := (List.range N).map C
def updC (C : Nat → PC) (a : Nat) (v : PC) : Nat → PC := fun x => if x = a then v else C x
theorem wdc_len {N : Nat} {C : Nat → PC} : (wdC N C).length = N := by unfold wdC; rw [List.length_map, List.length_range]
theorem wdc_at {N x : Nat} {C : Nat → PC} (h : x < N) : (wdC N C)[x]? = some (C x) := by unfold wdC; rw [List.getElem?_map, List.getElem?_range h]; rfl
theorem updC_eq {C : Nat → PC} {a : Nat} {v : PC} : updC C a v a = v := if_pos rfl
theorem updC_ne {C : Nat → PC} {a x : Nat} {v : PC} (h : x ≠ a) : updC C a v x = C x := if_neg h
theorem wdc_congr {N : Nat} {C C' : Nat → PC} (h : ∀ x, x < N → C x = C' x) : wdC N C = wdC N C' := List.map_congr_left (fun x hx => h x (List.mem_range.mp hx))
theorem wdc_set {N a : Nat} {C : Nat → PC} {v : PC} : (wdC N C).set a v = wdC N (updC C a v) := by
  apply List.ext_getElem?
  intro j
  rw [List.getElem?_set]
  by_cases hl : j < N
  · rw [wdc_at hl, wdc_at hl, wdc_len]
    by_cases hj : a = j
    · subst hj; rw [if_pos rfl, if_pos hl, updC_eq]
    · rw [if_neg hj, updC_ne (fun e => hj e.symm)]
  · rw [List.getElem?_eq_none (by rw [wdc_len]; omega), List.getElem?_eq_none (by rw [wdc_len]; omega), wdc_len]
    split
    · rw [if_neg (by omega)]
    · rfl
def Blk (C : Nat → PC) : Nat → List PC → Prop
  | _, [] => True
  | a, v :: l => C a = v ∧ Blk C (a + 1) l
theorem Blk.app {C : Nat → PC} : ∀ {l l' : List PC} {a : Nat}, Blk C a l → Blk C (a + l.length) l' → Blk C a (l ++ l')
  | [], _, _, _, h => h
  | v :: l, l', a, h, h' => ⟨h.1, Blk.app h.2 (by rw [show a + 1 + l.length = a + (v :: l).length by rw [List.length_cons]; omega]; exact h')⟩
theorem Blk.app' {C : Nat → PC} {l l' : List PC} {a n : Nat} (hn : l.length = n) (h : Blk C a l) (h' : Blk C (a + n) l') : Blk C a (l ++ l') := Blk.app h (by rw [hn]; exact h')
theorem Blk.pres {C C' : Nat → PC} : ∀ {l : List PC} {a : Nat}, (∀ x, a ≤ x → x < a + l.length → C' x = C x) → Blk C a l → Blk C' a l
  | [], _, _, _ => trivial
  | v :: l, a, hp, h => ⟨(hp a (Nat.le_refl _) (by rw [List.length_cons]; omega)).trans h.1, Blk.pres (fun x h1 h2 => hp x (by omega) (by rw [List.length_cons]; omega)) h.2⟩
theorem Blk.at {C : Nat → PC} : ∀ {l : List PC} {a j : Nat} {v : PC}, Blk C a l → l[j]? = some v → C (a + j) = v
  | [], _, _, _, _, h => by cases h
  | w :: l, a, 0, v, h, hv => by rw [← Option.some.inj hv]; exact h.1
  | w :: l, a, j + 1, v, h, hv => by rw [show a + (j + 1) = a + 1 + j by omega]; exact Blk.at h.2 hv
theorem Blk.flat {C : Nat → PC} {f : Nat → List PC} (hf : ∀ j, (f j).length = 22) : ∀ {n b : Nat}, (∀ j, j < n → Blk C (b + 22 * j) (f j)) → Blk C b ((List.range n).flatMap f) ∧ ((List.range n).flatMap f).length = 22 * n
  | 0, _, _ => ⟨trivial, rfl⟩
  | n + 1, b, h => by
    have q := Blk.flat hf (n := n) (b := b) (fun j hj => h j (by omega))
    rw [List.range_succ, List.flatMap_append, List.flatMap_cons, List.flatMap_nil, List.append_nil]
    refine ⟨Blk.app q.1 (by rw [q.2]; exact h n (by omega)), ?_⟩
    rw [List.length_append, q.2, hf]; omega
theorem Blk.of {C : Nat → PC} {f : Nat → PC} : ∀ {n a : Nat}, (∀ j, j < n → C (a + j) = f j) → Blk C a ((List.range n).map f) := by
  intro n
  induction n with
  | zero => intro a _; exact trivial
  | succ n ih =>
    intro a h
    rw [List.range_succ, List.map_append]
    refine Blk.app (ih (fun j hj => h j (by omega))) ?_
    rw [List.length_map, List.length_range]
    exact ⟨h n (by omega), trivial⟩
/-- what a constructor of the cell a leaves: a block of n cells -/
def PostH (C : Nat → PC) (a n : Nat) (l : List PC) : Option Value → List PC → Prop := fun v w => v = none ∧ ∃ C' : Nat → PC, w = wdC nCell C' ∧ (∀ x, (x < a ∨ a + n ≤ x) → C' x = C x) ∧ Blk C' a l
theorem postH {C : Nat → PC} {a n : Nat} {l : List PC} {P : Option Value → List PC → Prop} (h : ∀ C' : Nat → PC, (∀ x, (x < a ∨ a + n ≤ x) → C' x = C x) → Blk C' a l → P none (wdC nCell C')) : ∀ v w, PostH C a n l v w → P v w := fun v w hv => Exists.elim hv.2 (fun C' hC => by
  rw [hv.1, hC.1]
  exact h C' hC.2.1 hC.2.2)
section HRules
variable {sc : SC} {Y : MI} {mc ms pc k n i : Nat} {ls : List (Nat × Value)} {st : List Value} {C C1 : Nat → PC} {K : Option Value → List PC → Prop}
theorem h_bipush {ww : List PC} {z : Int} (hd : decode (mBy Y) pc = .ok (.bipush z, 2)) (hz : (Int8.ofInt z).toInt32 = Int32.ofInt z) (h : GX sc Y mc ms (pc + 2) ls (V z :: st) ww k n K) : GX sc Y mc ms pc ls st ww k n K := x_bipush hd hz h
theorem h_sipush {ww : List PC} {z : Int} (hd : decode (mBy Y) pc = .ok (.sipush z, 3)) (hz : (Int16.ofInt z).toInt32 = Int32.ofInt z) (h : GX sc Y mc ms (pc + 3) ls (V z :: st) ww k n K) : GX sc Y mc ms pc ls st ww k n K := x_sipush hd hz h
theorem h_iconst {ww : List PC} {z : Int} (hd : decode (mBy Y) pc = .ok (.iconst z, 1)) (h : GX sc Y mc ms (pc + 1) ls (V z :: st) ww k n K) : GX sc Y mc ms pc ls st ww k n K := x_iconst hd rfl h
theorem lt_XB' {a : Nat} (h : a < nCell) : a < XB := lt_XB h
theorem h_new {a ci : Nat} (hd : decode (mBy Y) pc = .ok (.new i, 3)) (hci : ci < 18) (h1 : Cond.classLink (mNm Y).cls i (RC ci) ∈ gtbl) (h2 : Cond.instantiable (RC ci) (NC ci) ∈ gtbl) (h3 : Cond.initialized (RC ci) ∈ gtbl) (hk : k + 1 ≤ mc) (hn : n + NC ci ≤ ms) (ha : a < nCell) (h0 : 900 ≤ (C a).1) (e : C1 = updC C a (ci, dfl ci))
    (h : GX sc Y mc ms (pc + 3) ls (.ref a :: st) (wdC nCell C1) (k + 1) (n + NC ci) K) : GX sc Y mc ms pc ls st (wdC nCell C) k n K := by
  subst e
  refine x_newH hd hci h1 h2 h3 hk hn (lt_XB ha) (wdc_at ha) h0 ?_
  rw [wdc_set]
  exact h
theorem h_newarr {a M : Nat} (hd : decode (mBy Y) pc = .ok (.newarray .int, 2)) (hM : Nat.ble M 16384 = true) (hk : k + 1 ≤ mc) (hn : n + M ≤ ms) (ha : a < nCell) (h0 : 900 ≤ (C a).1) (e : C1 = updC C a (100, List.replicate M (.int 0)))
    (h : GX sc Y mc ms (pc + 2) ls (.ref a :: st) (wdC nCell C1) (k + 1) (n + M) K) : GX sc Y mc ms pc ls (V (M : Int) :: st) (wdC nCell C) k n K := by
  subst e
  have hM' := Nat.le_of_ble_eq_true hM
  have e1 : (Int32.ofInt (M : Int)).toInt = (M : Int) := I_toInt (by unfold inR; omega)
  refine x_newarrH hd q_68 (by rw [e1]; omega) (by rw [e1]; omega) hM' hk hn (lt_XB ha) (wdc_at ha) h0 ?_
  rw [wdc_set]
  exact h
theorem h_anew {a M : Nat} (hd : decode (mBy Y) pc = .ok (.anewarray i, 3)) (h1 : Cond.classLink (mNm Y).cls i "FlatPlan$State" ∈ gtbl) (hM : Nat.ble M 16384 = true) (hk : k + 1 ≤ mc) (hn : n + M ≤ ms) (ha : a < nCell) (h0 : 900 ≤ (C a).1) (e : C1 = updC C a (105, List.replicate M .null))
    (h : GX sc Y mc ms (pc + 3) ls (.ref a :: st) (wdC nCell C1) (k + 1) (n + M) K) : GX sc Y mc ms pc ls (V (M : Int) :: st) (wdC nCell C) k n K := by
  subst e
  have hM' := Nat.le_of_ble_eq_true hM
  have e1 : (Int32.ofInt (M : Int)).toInt = (M : Int) := I_toInt (by unfold inR; omega)
  refine x_anewH hd h1 (by rw [e1]; omega) (by rw [e1]; omega) hM' hk hn (lt_XB ha) (wdc_at ha) h0 ?_
  rw [wdc_set]
  exact h
theorem h_putF {a ci f : Nat} {vs vs1 : List Value} {v : Value} (hd : decode (mBy Y) pc = .ok (.putfield i, 3)) (hw : Cond.fieldLink (mNm Y).cls i (TC ci f).1 (TC ci f).2.1 (TC ci f).2.2.1 ∈ gtbl) (hci : ci < 18) (hf : f < NC ci) (hfin : (TC ci f).2.2.2 = true) (hin : (mNm Y).name = "<init>") (hdc : (TC ci f).1 = (mNm Y).cls) (hty : okV (TYC ci f) v) (ha : a < nCell) (hc : C a = (ci, vs)) (hl0 : f < vs.length) (hv : vs.set f v = vs1) (e : C1 = updC C a (ci, vs1))
    (h : GX sc Y mc ms (pc + 3) ls st (wdC nCell C1) k n K) : GX sc Y mc ms pc ls (v :: .ref a :: st) (wdC nCell C) k n K := by
  subst e hv
  refine x_putfinal hd hw hci hf hfin hin hdc hty (lt_XB ha) (by rw [← hc]; exact wdc_at ha) hl0 ?_
  rw [wdc_set]
  exact h
theorem h_put {a ci f : Nat} {vs vs1 : List Value} {v : Value} (hd : decode (mBy Y) pc = .ok (.putfield i, 3)) (hw : Cond.fieldLink (mNm Y).cls i (TC ci f).1 (TC ci f).2.1 (TC ci f).2.2.1 ∈ gtbl) (hci : ci < 18) (hf : f < NC ci) (hfin : (TC ci f).2.2.2 = false) (hty : okV (TYC ci f) v) (ha : a < nCell) (hc : C a = (ci, vs)) (hl0 : f < vs.length) (hv : vs.set f v = vs1) (e : C1 = updC C a (ci, vs1))
    (h : GX sc Y mc ms (pc + 3) ls st (wdC nCell C1) k n K) : GX sc Y mc ms pc ls (v :: .ref a :: st) (wdC nCell C) k n K := by
  subst e hv
  refine x_putfield hd hw hci hf hfin hty (lt_XB ha) (by rw [← hc]; exact wdc_at ha) hl0 ?_
  rw [wdc_set]
  exact h
theorem h_get {a ci f : Nat} {vs : List Value} {v : Value} (hd : decode (mBy Y) pc = .ok (.getfield i, 3)) (hw : Cond.fieldLink (mNm Y).cls i (TC ci f).1 (TC ci f).2.1 (TC ci f).2.2.1 ∈ gtbl) (hci : ci < 18) (hf : f < NC ci) (ha : a < nCell) (hc : C a = (ci, vs)) (hv : vs[f]? = some v)
    (h : GX sc Y mc ms (pc + 3) ls (v :: st) (wdC nCell C) k n K) : GX sc Y mc ms pc ls (.ref a :: st) (wdC nCell C) k n K :=
  x_getfield hd hw hci hf (lt_XB ha) (by rw [← hc]; exact wdc_at ha) hv h
theorem h_aast {a b j : Nat} {vs fs : List Value} (hd : decode (mBy Y) pc = .ok (.aastore, 1)) (ha : a < nCell) (hb : b < nCell) (hc : C a = (105, vs)) (hcb : C b = (8, fs)) (hj : j < vs.length) (hj2 : j ≤ 9999) (e : C1 = updC C a (105, vs.set j (.ref b)))
    (h : GX sc Y mc ms (pc + 1) ls st (wdC nCell C1) k n K) : GX sc Y mc ms pc ls (.ref b :: V (j : Int) :: .ref a :: st) (wdC nCell C) k n K := by
  subst e
  have e1 : (Int32.ofInt (j : Int)).toInt = (j : Int) := I_toInt (by unfold inR; omega)
  have e2 : (Int32.ofInt (j : Int)).toInt.toNat = j := by omega
  refine x_aastS hd (lt_XB ha) (lt_XB hb) (vs := vs) (fs := fs) (by rw [← hc]; exact wdc_at ha) (by rw [← hcb]; exact wdc_at hb) (by omega) (by rw [e2]; exact hj) ?_
  rw [e2, wdc_set]
  exact h
end HRules

def Ads_l (a : Nat) : List PC := (0, [.ref (a + 1), .ref (a + 2), .ref (a + 3), .ref (a + 4), .ref (a + 5), .ref (a + 6), .ref (a + 7), .int 0]) :: ((100, List.replicate 40 (.int 0)) :: ((100, List.replicate 40 (.int 0)) :: ((100, List.replicate 40 (.int 0)) :: ((100, List.replicate 40 (.int 0)) :: ((100, List.replicate 40 (.int 0)) :: ((100, List.replicate 40 (.int 0)) :: ((100, List.replicate 40 (.int 0)) :: ([]))))))))

theorem ct_Ads {sc : SC} {C : Nat → PC} {a : Nat} (hx : a + 8 ≤ nCell) (h0 : C a = (0, dfl 0)) (hC : ∀ x, a < x → x < a + 8 → 900 ≤ (C x).1) : EvX sc M_Ads_init [.ref a] (wdC nCell C) 7 280 (PostH C a 8 (Ads_l a)) := by
  refine EvX.of pn_Ads rfl (leK rfl) ?_
  show GX sc M_Ads_init 7 280 0 [(0, .ref a)] [] (wdC nCell C) 0 0 _
  unfold nCell at hx
  have h0 : C a = (0, [.null, .null, .null, .null, .null, .null, .null, .int 0]) := h0
  refine x_aloadn (pc := 0) (i0 := 0) (j := 0) (dK D_Ads_init 0 rfl) rfl rfl ?_
  refine x_objinit (pc := 1) (dK D_Ads_init 1 rfl) q_86 (leK rfl) (leK rfl) (leK rfl) ?_
  refine x_aloadn (pc := 4) (i0 := 0) (j := 0) (dK D_Ads_init 2 rfl) rfl rfl ?_
  refine h_bipush (pc := 5) (dK D_Ads_init 3 rfl) rfl ?_
  obtain ⟨C1, e1⟩ : ∃ D : Nat → PC, D = updC C (a + 1) (100, List.replicate 40 (.int 0)) := ⟨_, rfl⟩
  refine h_newarr (pc := 7) (M := 40) (dK D_Ads_init 4 rfl) rfl (leK rfl) (leK rfl) (by unfold nCell; omega) (by rw [show C (a + 1) = C (a + 1) from rfl]; exact hC _ (by omega) (by omega)) e1 ?_
  have f1 : C1 a = (0, [.null, .null, .null, .null, .null, .null, .null, .int 0]) := by rw [e1, updC_ne (by omega)]; exact h0
  obtain ⟨C2, e2⟩ : ∃ D : Nat → PC, D = updC C1 a (0, [.ref (a + 1), .null, .null, .null, .null, .null, .null, .int 0]) := ⟨_, rfl⟩
  refine h_putF (pc := 9) (ci := 0) (f := 0) (dK D_Ads_init 5 rfl) q_87 (ltK rfl) (ltK rfl) rfl rfl rfl (okV_arr _ _) (by unfold nCell; omega) f1 (ltK rfl) rfl e2 ?_
  have f2 : C2 a = (0, [.ref (a + 1), .null, .null, .null, .null, .null, .null, .int 0]) := by rw [e2]; exact updC_eq
  refine x_aloadn (pc := 12) (i0 := 0) (j := 0) (dK D_Ads_init 6 rfl) rfl rfl ?_
  refine h_bipush (pc := 13) (dK D_Ads_init 7 rfl) rfl ?_
  obtain ⟨C3, e3⟩ : ∃ D : Nat → PC, D = updC C2 (a + 2) (100, List.replicate 40 (.int 0)) := ⟨_, rfl⟩
  refine h_newarr (pc := 15) (M := 40) (dK D_Ads_init 8 rfl) rfl (leK rfl) (leK rfl) (by unfold nCell; omega) (by rw [show C2 (a + 2) = C (a + 2) from ((congrFun e2 _).trans (updC_ne (by omega))).trans (((congrFun e1 _).trans (updC_ne (by omega))).trans (rfl))]; exact hC _ (by omega) (by omega)) e3 ?_
  have f3 : C3 a = (0, [.ref (a + 1), .null, .null, .null, .null, .null, .null, .int 0]) := by rw [e3, updC_ne (by omega)]; exact f2
  obtain ⟨C4, e4⟩ : ∃ D : Nat → PC, D = updC C3 a (0, [.ref (a + 1), .ref (a + 2), .null, .null, .null, .null, .null, .int 0]) := ⟨_, rfl⟩
  refine h_putF (pc := 17) (ci := 0) (f := 1) (dK D_Ads_init 9 rfl) q_91 (ltK rfl) (ltK rfl) rfl rfl rfl (okV_arr _ _) (by unfold nCell; omega) f3 (ltK rfl) rfl e4 ?_
  have f4 : C4 a = (0, [.ref (a + 1), .ref (a + 2), .null, .null, .null, .null, .null, .int 0]) := by rw [e4]; exact updC_eq
  refine x_aloadn (pc := 20) (i0 := 0) (j := 0) (dK D_Ads_init 10 rfl) rfl rfl ?_
  refine h_bipush (pc := 21) (dK D_Ads_init 11 rfl) rfl ?_
  obtain ⟨C5, e5⟩ : ∃ D : Nat → PC, D = updC C4 (a + 3) (100, List.replicate 40 (.int 0)) := ⟨_, rfl⟩
  refine h_newarr (pc := 23) (M := 40) (dK D_Ads_init 12 rfl) rfl (leK rfl) (leK rfl) (by unfold nCell; omega) (by rw [show C4 (a + 3) = C (a + 3) from ((congrFun e4 _).trans (updC_ne (by omega))).trans (((congrFun e3 _).trans (updC_ne (by omega))).trans (((congrFun e2 _).trans (updC_ne (by omega))).trans (((congrFun e1 _).trans (updC_ne (by omega))).trans (rfl))))]; exact hC _ (by omega) (by omega)) e5 ?_
  have f5 : C5 a = (0, [.ref (a + 1), .ref (a + 2), .null, .null, .null, .null, .null, .int 0]) := by rw [e5, updC_ne (by omega)]; exact f4
  obtain ⟨C6, e6⟩ : ∃ D : Nat → PC, D = updC C5 a (0, [.ref (a + 1), .ref (a + 2), .ref (a + 3), .null, .null, .null, .null, .int 0]) := ⟨_, rfl⟩
  refine h_putF (pc := 25) (ci := 0) (f := 2) (dK D_Ads_init 13 rfl) q_94 (ltK rfl) (ltK rfl) rfl rfl rfl (okV_arr _ _) (by unfold nCell; omega) f5 (ltK rfl) rfl e6 ?_
  have f6 : C6 a = (0, [.ref (a + 1), .ref (a + 2), .ref (a + 3), .null, .null, .null, .null, .int 0]) := by rw [e6]; exact updC_eq
  refine x_aloadn (pc := 28) (i0 := 0) (j := 0) (dK D_Ads_init 14 rfl) rfl rfl ?_
  refine h_bipush (pc := 29) (dK D_Ads_init 15 rfl) rfl ?_
  obtain ⟨C7, e7⟩ : ∃ D : Nat → PC, D = updC C6 (a + 4) (100, List.replicate 40 (.int 0)) := ⟨_, rfl⟩
  refine h_newarr (pc := 31) (M := 40) (dK D_Ads_init 16 rfl) rfl (leK rfl) (leK rfl) (by unfold nCell; omega) (by rw [show C6 (a + 4) = C (a + 4) from ((congrFun e6 _).trans (updC_ne (by omega))).trans (((congrFun e5 _).trans (updC_ne (by omega))).trans (((congrFun e4 _).trans (updC_ne (by omega))).trans (((congrFun e3 _).trans (updC_ne (by omega))).trans (((congrFun e2 _).trans (updC_ne (by omega))).trans (((congrFun e1 _).trans (updC_ne (by omega))).trans (rfl))))))]; exact hC _ (by omega) (by omega)) e7 ?_
  have f7 : C7 a = (0, [.ref (a + 1), .ref (a + 2), .ref (a + 3), .null, .null, .null, .null, .int 0]) := by rw [e7, updC_ne (by omega)]; exact f6
  obtain ⟨C8, e8⟩ : ∃ D : Nat → PC, D = updC C7 a (0, [.ref (a + 1), .ref (a + 2), .ref (a + 3), .ref (a + 4), .null, .null, .null, .int 0]) := ⟨_, rfl⟩
  refine h_putF (pc := 33) (ci := 0) (f := 3) (dK D_Ads_init 17 rfl) q_99 (ltK rfl) (ltK rfl) rfl rfl rfl (okV_arr _ _) (by unfold nCell; omega) f7 (ltK rfl) rfl e8 ?_
  have f8 : C8 a = (0, [.ref (a + 1), .ref (a + 2), .ref (a + 3), .ref (a + 4), .null, .null, .null, .int 0]) := by rw [e8]; exact updC_eq
  refine x_aloadn (pc := 36) (i0 := 0) (j := 0) (dK D_Ads_init 18 rfl) rfl rfl ?_
  refine h_bipush (pc := 37) (dK D_Ads_init 19 rfl) rfl ?_
  obtain ⟨C9, e9⟩ : ∃ D : Nat → PC, D = updC C8 (a + 5) (100, List.replicate 40 (.int 0)) := ⟨_, rfl⟩
  refine h_newarr (pc := 39) (M := 40) (dK D_Ads_init 20 rfl) rfl (leK rfl) (leK rfl) (by unfold nCell; omega) (by rw [show C8 (a + 5) = C (a + 5) from ((congrFun e8 _).trans (updC_ne (by omega))).trans (((congrFun e7 _).trans (updC_ne (by omega))).trans (((congrFun e6 _).trans (updC_ne (by omega))).trans (((congrFun e5 _).trans (updC_ne (by omega))).trans (((congrFun e4 _).trans (updC_ne (by omega))).trans (((congrFun e3 _).trans (updC_ne (by omega))).trans (((congrFun e2 _).trans (updC_ne (by omega))).trans (((congrFun e1 _).trans (updC_ne (by omega))).trans (rfl))))))))]; exact hC _ (by omega) (by omega)) e9 ?_
  have f9 : C9 a = (0, [.ref (a + 1), .ref (a + 2), .ref (a + 3), .ref (a + 4), .null, .null, .null, .int 0]) := by rw [e9, updC_ne (by omega)]; exact f8
  obtain ⟨C10, e10⟩ : ∃ D : Nat → PC, D = updC C9 a (0, [.ref (a + 1), .ref (a + 2), .ref (a + 3), .ref (a + 4), .ref (a + 5), .null, .null, .int 0]) := ⟨_, rfl⟩
  refine h_putF (pc := 41) (ci := 0) (f := 4) (dK D_Ads_init 21 rfl) q_103 (ltK rfl) (ltK rfl) rfl rfl rfl (okV_arr _ _) (by unfold nCell; omega) f9 (ltK rfl) rfl e10 ?_
  have f10 : C10 a = (0, [.ref (a + 1), .ref (a + 2), .ref (a + 3), .ref (a + 4), .ref (a + 5), .null, .null, .int 0]) := by rw [e10]; exact updC_eq
  refine x_aloadn (pc := 44) (i0 := 0) (j := 0) (dK D_Ads_init 22 rfl) rfl rfl ?_
  refine h_bipush (pc := 45) (dK D_Ads_init 23 rfl) rfl ?_
  obtain ⟨C11, e11⟩ : ∃ D : Nat → PC, D = updC C10 (a + 6) (100, List.replicate 40 (.int 0)) := ⟨_, rfl⟩
  refine h_newarr (pc := 47) (M := 40) (dK D_Ads_init 24 rfl) rfl (leK rfl) (leK rfl) (by unfold nCell; omega) (by rw [show C10 (a + 6) = C (a + 6) from ((congrFun e10 _).trans (updC_ne (by omega))).trans (((congrFun e9 _).trans (updC_ne (by omega))).trans (((congrFun e8 _).trans (updC_ne (by omega))).trans (((congrFun e7 _).trans (updC_ne (by omega))).trans (((congrFun e6 _).trans (updC_ne (by omega))).trans (((congrFun e5 _).trans (updC_ne (by omega))).trans (((congrFun e4 _).trans (updC_ne (by omega))).trans (((congrFun e3 _).trans (updC_ne (by omega))).trans (((congrFun e2 _).trans (updC_ne (by omega))).trans (((congrFun e1 _).trans (updC_ne (by omega))).trans (rfl))))))))))]; exact hC _ (by omega) (by omega)) e11 ?_
  have f11 : C11 a = (0, [.ref (a + 1), .ref (a + 2), .ref (a + 3), .ref (a + 4), .ref (a + 5), .null, .null, .int 0]) := by rw [e11, updC_ne (by omega)]; exact f10
  obtain ⟨C12, e12⟩ : ∃ D : Nat → PC, D = updC C11 a (0, [.ref (a + 1), .ref (a + 2), .ref (a + 3), .ref (a + 4), .ref (a + 5), .ref (a + 6), .null, .int 0]) := ⟨_, rfl⟩
  refine h_putF (pc := 49) (ci := 0) (f := 5) (dK D_Ads_init 25 rfl) q_107 (ltK rfl) (ltK rfl) rfl rfl rfl (okV_arr _ _) (by unfold nCell; omega) f11 (ltK rfl) rfl e12 ?_
  have f12 : C12 a = (0, [.ref (a + 1), .ref (a + 2), .ref (a + 3), .ref (a + 4), .ref (a + 5), .ref (a + 6), .null, .int 0]) := by rw [e12]; exact updC_eq
  refine x_aloadn (pc := 52) (i0 := 0) (j := 0) (dK D_Ads_init 26 rfl) rfl rfl ?_
  refine h_bipush (pc := 53) (dK D_Ads_init 27 rfl) rfl ?_
  obtain ⟨C13, e13⟩ : ∃ D : Nat → PC, D = updC C12 (a + 7) (100, List.replicate 40 (.int 0)) := ⟨_, rfl⟩
  refine h_newarr (pc := 55) (M := 40) (dK D_Ads_init 28 rfl) rfl (leK rfl) (leK rfl) (by unfold nCell; omega) (by rw [show C12 (a + 7) = C (a + 7) from ((congrFun e12 _).trans (updC_ne (by omega))).trans (((congrFun e11 _).trans (updC_ne (by omega))).trans (((congrFun e10 _).trans (updC_ne (by omega))).trans (((congrFun e9 _).trans (updC_ne (by omega))).trans (((congrFun e8 _).trans (updC_ne (by omega))).trans (((congrFun e7 _).trans (updC_ne (by omega))).trans (((congrFun e6 _).trans (updC_ne (by omega))).trans (((congrFun e5 _).trans (updC_ne (by omega))).trans (((congrFun e4 _).trans (updC_ne (by omega))).trans (((congrFun e3 _).trans (updC_ne (by omega))).trans (((congrFun e2 _).trans (updC_ne (by omega))).trans (((congrFun e1 _).trans (updC_ne (by omega))).trans (rfl))))))))))))]; exact hC _ (by omega) (by omega)) e13 ?_
  have f13 : C13 a = (0, [.ref (a + 1), .ref (a + 2), .ref (a + 3), .ref (a + 4), .ref (a + 5), .ref (a + 6), .null, .int 0]) := by rw [e13, updC_ne (by omega)]; exact f12
  obtain ⟨C14, e14⟩ : ∃ D : Nat → PC, D = updC C13 a (0, [.ref (a + 1), .ref (a + 2), .ref (a + 3), .ref (a + 4), .ref (a + 5), .ref (a + 6), .ref (a + 7), .int 0]) := ⟨_, rfl⟩
  refine h_putF (pc := 57) (ci := 0) (f := 6) (dK D_Ads_init 29 rfl) q_111 (ltK rfl) (ltK rfl) rfl rfl rfl (okV_arr _ _) (by unfold nCell; omega) f13 (ltK rfl) rfl e14 ?_
  have f14 : C14 a = (0, [.ref (a + 1), .ref (a + 2), .ref (a + 3), .ref (a + 4), .ref (a + 5), .ref (a + 6), .ref (a + 7), .int 0]) := by rw [e14]; exact updC_eq
  exact x_return (pc := 60) (dK D_Ads_init 30 rfl) rfl (leK rfl) (leK rfl) ⟨rfl, C14, rfl, fun x hx => ((congrFun e14 _).trans (updC_ne (by omega))).trans (((congrFun e13 _).trans (updC_ne (by omega))).trans (((congrFun e12 _).trans (updC_ne (by omega))).trans (((congrFun e11 _).trans (updC_ne (by omega))).trans (((congrFun e10 _).trans (updC_ne (by omega))).trans (((congrFun e9 _).trans (updC_ne (by omega))).trans (((congrFun e8 _).trans (updC_ne (by omega))).trans (((congrFun e7 _).trans (updC_ne (by omega))).trans (((congrFun e6 _).trans (updC_ne (by omega))).trans (((congrFun e5 _).trans (updC_ne (by omega))).trans (((congrFun e4 _).trans (updC_ne (by omega))).trans (((congrFun e3 _).trans (updC_ne (by omega))).trans (((congrFun e2 _).trans (updC_ne (by omega))).trans (((congrFun e1 _).trans (updC_ne (by omega))).trans (rfl)))))))))))))), ⟨f14, ⟨((congrFun e14 _).trans (updC_ne (by omega))).trans (((congrFun e13 _).trans (updC_ne (by omega))).trans (((congrFun e12 _).trans (updC_ne (by omega))).trans (((congrFun e11 _).trans (updC_ne (by omega))).trans (((congrFun e10 _).trans (updC_ne (by omega))).trans (((congrFun e9 _).trans (updC_ne (by omega))).trans (((congrFun e8 _).trans (updC_ne (by omega))).trans (((congrFun e7 _).trans (updC_ne (by omega))).trans (((congrFun e6 _).trans (updC_ne (by omega))).trans (((congrFun e5 _).trans (updC_ne (by omega))).trans (((congrFun e4 _).trans (updC_ne (by omega))).trans (((congrFun e3 _).trans (updC_ne (by omega))).trans (((congrFun e2 _).trans (updC_ne (by omega))).trans ((congrFun e1 _).trans updC_eq))))))))))))), ⟨((congrFun e14 _).trans (updC_ne (by omega))).trans (((congrFun e13 _).trans (updC_ne (by omega))).trans (((congrFun e12 _).trans (updC_ne (by omega))).trans (((congrFun e11 _).trans (updC_ne (by omega))).trans (((congrFun e10 _).trans (updC_ne (by omega))).trans (((congrFun e9 _).trans (updC_ne (by omega))).trans (((congrFun e8 _).trans (updC_ne (by omega))).trans (((congrFun e7 _).trans (updC_ne (by omega))).trans (((congrFun e6 _).trans (updC_ne (by omega))).trans (((congrFun e5 _).trans (updC_ne (by omega))).trans (((congrFun e4 _).trans (updC_ne (by omega))).trans ((congrFun e3 _).trans updC_eq))))))))))), ⟨((congrFun e14 _).trans (updC_ne (by omega))).trans (((congrFun e13 _).trans (updC_ne (by omega))).trans (((congrFun e12 _).trans (updC_ne (by omega))).trans (((congrFun e11 _).trans (updC_ne (by omega))).trans (((congrFun e10 _).trans (updC_ne (by omega))).trans (((congrFun e9 _).trans (updC_ne (by omega))).trans (((congrFun e8 _).trans (updC_ne (by omega))).trans (((congrFun e7 _).trans (updC_ne (by omega))).trans (((congrFun e6 _).trans (updC_ne (by omega))).trans ((congrFun e5 _).trans updC_eq))))))))), ⟨((congrFun e14 _).trans (updC_ne (by omega))).trans (((congrFun e13 _).trans (updC_ne (by omega))).trans (((congrFun e12 _).trans (updC_ne (by omega))).trans (((congrFun e11 _).trans (updC_ne (by omega))).trans (((congrFun e10 _).trans (updC_ne (by omega))).trans (((congrFun e9 _).trans (updC_ne (by omega))).trans (((congrFun e8 _).trans (updC_ne (by omega))).trans ((congrFun e7 _).trans updC_eq))))))), ⟨((congrFun e14 _).trans (updC_ne (by omega))).trans (((congrFun e13 _).trans (updC_ne (by omega))).trans (((congrFun e12 _).trans (updC_ne (by omega))).trans (((congrFun e11 _).trans (updC_ne (by omega))).trans (((congrFun e10 _).trans (updC_ne (by omega))).trans ((congrFun e9 _).trans updC_eq))))), ⟨((congrFun e14 _).trans (updC_ne (by omega))).trans (((congrFun e13 _).trans (updC_ne (by omega))).trans (((congrFun e12 _).trans (updC_ne (by omega))).trans ((congrFun e11 _).trans updC_eq))), ⟨((congrFun e14 _).trans (updC_ne (by omega))).trans ((congrFun e13 _).trans updC_eq), trivial⟩⟩⟩⟩⟩⟩⟩⟩⟩
def Stories_l (a : Nat) : List PC := (9, [.ref (a + 1), .ref (a + 2), .ref (a + 3), .ref (a + 4), .ref (a + 5), .int 0]) :: ((100, List.replicate 10 (.int 0)) :: ((100, List.replicate 10 (.int 0)) :: ((100, List.replicate 10 (.int 0)) :: ((100, List.replicate 10 (.int 0)) :: ((100, List.replicate 10 (.int 0)) :: ([]))))))

theorem ct_Stories {sc : SC} {C : Nat → PC} {a : Nat} (hx : a + 6 ≤ nCell) (h0 : C a = (9, dfl 9)) (hC : ∀ x, a < x → x < a + 6 → 900 ≤ (C x).1) : EvX sc M_Stories_init [.ref a] (wdC nCell C) 5 50 (PostH C a 6 (Stories_l a)) := by
  refine EvX.of pn_Stories rfl (leK rfl) ?_
  show GX sc M_Stories_init 5 50 0 [(0, .ref a)] [] (wdC nCell C) 0 0 _
  unfold nCell at hx
  have h0 : C a = (9, [.null, .null, .null, .null, .null, .int 0]) := h0
  refine x_aloadn (pc := 0) (i0 := 0) (j := 0) (dK D_Stories_init 0 rfl) rfl rfl ?_
  refine x_objinit (pc := 1) (dK D_Stories_init 1 rfl) q_143 (leK rfl) (leK rfl) (leK rfl) ?_
  refine x_aloadn (pc := 4) (i0 := 0) (j := 0) (dK D_Stories_init 2 rfl) rfl rfl ?_
  refine h_bipush (pc := 5) (dK D_Stories_init 3 rfl) rfl ?_
  obtain ⟨C1, e1⟩ : ∃ D : Nat → PC, D = updC C (a + 1) (100, List.replicate 10 (.int 0)) := ⟨_, rfl⟩
  refine h_newarr (pc := 7) (M := 10) (dK D_Stories_init 4 rfl) rfl (leK rfl) (leK rfl) (by unfold nCell; omega) (by rw [show C (a + 1) = C (a + 1) from rfl]; exact hC _ (by omega) (by omega)) e1 ?_
  have f1 : C1 a = (9, [.null, .null, .null, .null, .null, .int 0]) := by rw [e1, updC_ne (by omega)]; exact h0
  obtain ⟨C2, e2⟩ : ∃ D : Nat → PC, D = updC C1 a (9, [.ref (a + 1), .null, .null, .null, .null, .int 0]) := ⟨_, rfl⟩
  refine h_putF (pc := 9) (ci := 9) (f := 0) (dK D_Stories_init 5 rfl) q_144 (ltK rfl) (ltK rfl) rfl rfl rfl (okV_arr _ _) (by unfold nCell; omega) f1 (ltK rfl) rfl e2 ?_
  have f2 : C2 a = (9, [.ref (a + 1), .null, .null, .null, .null, .int 0]) := by rw [e2]; exact updC_eq
  refine x_aloadn (pc := 12) (i0 := 0) (j := 0) (dK D_Stories_init 6 rfl) rfl rfl ?_
  refine h_bipush (pc := 13) (dK D_Stories_init 7 rfl) rfl ?_
  obtain ⟨C3, e3⟩ : ∃ D : Nat → PC, D = updC C2 (a + 2) (100, List.replicate 10 (.int 0)) := ⟨_, rfl⟩
  refine h_newarr (pc := 15) (M := 10) (dK D_Stories_init 8 rfl) rfl (leK rfl) (leK rfl) (by unfold nCell; omega) (by rw [show C2 (a + 2) = C (a + 2) from ((congrFun e2 _).trans (updC_ne (by omega))).trans (((congrFun e1 _).trans (updC_ne (by omega))).trans (rfl))]; exact hC _ (by omega) (by omega)) e3 ?_
  have f3 : C3 a = (9, [.ref (a + 1), .null, .null, .null, .null, .int 0]) := by rw [e3, updC_ne (by omega)]; exact f2
  obtain ⟨C4, e4⟩ : ∃ D : Nat → PC, D = updC C3 a (9, [.ref (a + 1), .ref (a + 2), .null, .null, .null, .int 0]) := ⟨_, rfl⟩
  refine h_putF (pc := 17) (ci := 9) (f := 1) (dK D_Stories_init 9 rfl) q_148 (ltK rfl) (ltK rfl) rfl rfl rfl (okV_arr _ _) (by unfold nCell; omega) f3 (ltK rfl) rfl e4 ?_
  have f4 : C4 a = (9, [.ref (a + 1), .ref (a + 2), .null, .null, .null, .int 0]) := by rw [e4]; exact updC_eq
  refine x_aloadn (pc := 20) (i0 := 0) (j := 0) (dK D_Stories_init 10 rfl) rfl rfl ?_
  refine h_bipush (pc := 21) (dK D_Stories_init 11 rfl) rfl ?_
  obtain ⟨C5, e5⟩ : ∃ D : Nat → PC, D = updC C4 (a + 3) (100, List.replicate 10 (.int 0)) := ⟨_, rfl⟩
  refine h_newarr (pc := 23) (M := 10) (dK D_Stories_init 12 rfl) rfl (leK rfl) (leK rfl) (by unfold nCell; omega) (by rw [show C4 (a + 3) = C (a + 3) from ((congrFun e4 _).trans (updC_ne (by omega))).trans (((congrFun e3 _).trans (updC_ne (by omega))).trans (((congrFun e2 _).trans (updC_ne (by omega))).trans (((congrFun e1 _).trans (updC_ne (by omega))).trans (rfl))))]; exact hC _ (by omega) (by omega)) e5 ?_
  have f5 : C5 a = (9, [.ref (a + 1), .ref (a + 2), .null, .null, .null, .int 0]) := by rw [e5, updC_ne (by omega)]; exact f4
  obtain ⟨C6, e6⟩ : ∃ D : Nat → PC, D = updC C5 a (9, [.ref (a + 1), .ref (a + 2), .ref (a + 3), .null, .null, .int 0]) := ⟨_, rfl⟩
  refine h_putF (pc := 25) (ci := 9) (f := 2) (dK D_Stories_init 13 rfl) q_152 (ltK rfl) (ltK rfl) rfl rfl rfl (okV_arr _ _) (by unfold nCell; omega) f5 (ltK rfl) rfl e6 ?_
  have f6 : C6 a = (9, [.ref (a + 1), .ref (a + 2), .ref (a + 3), .null, .null, .int 0]) := by rw [e6]; exact updC_eq
  refine x_aloadn (pc := 28) (i0 := 0) (j := 0) (dK D_Stories_init 14 rfl) rfl rfl ?_
  refine h_bipush (pc := 29) (dK D_Stories_init 15 rfl) rfl ?_
  obtain ⟨C7, e7⟩ : ∃ D : Nat → PC, D = updC C6 (a + 4) (100, List.replicate 10 (.int 0)) := ⟨_, rfl⟩
  refine h_newarr (pc := 31) (M := 10) (dK D_Stories_init 16 rfl) rfl (leK rfl) (leK rfl) (by unfold nCell; omega) (by rw [show C6 (a + 4) = C (a + 4) from ((congrFun e6 _).trans (updC_ne (by omega))).trans (((congrFun e5 _).trans (updC_ne (by omega))).trans (((congrFun e4 _).trans (updC_ne (by omega))).trans (((congrFun e3 _).trans (updC_ne (by omega))).trans (((congrFun e2 _).trans (updC_ne (by omega))).trans (((congrFun e1 _).trans (updC_ne (by omega))).trans (rfl))))))]; exact hC _ (by omega) (by omega)) e7 ?_
  have f7 : C7 a = (9, [.ref (a + 1), .ref (a + 2), .ref (a + 3), .null, .null, .int 0]) := by rw [e7, updC_ne (by omega)]; exact f6
  obtain ⟨C8, e8⟩ : ∃ D : Nat → PC, D = updC C7 a (9, [.ref (a + 1), .ref (a + 2), .ref (a + 3), .ref (a + 4), .null, .int 0]) := ⟨_, rfl⟩
  refine h_putF (pc := 33) (ci := 9) (f := 3) (dK D_Stories_init 17 rfl) q_155 (ltK rfl) (ltK rfl) rfl rfl rfl (okV_arr _ _) (by unfold nCell; omega) f7 (ltK rfl) rfl e8 ?_
  have f8 : C8 a = (9, [.ref (a + 1), .ref (a + 2), .ref (a + 3), .ref (a + 4), .null, .int 0]) := by rw [e8]; exact updC_eq
  refine x_aloadn (pc := 36) (i0 := 0) (j := 0) (dK D_Stories_init 18 rfl) rfl rfl ?_
  refine h_bipush (pc := 37) (dK D_Stories_init 19 rfl) rfl ?_
  obtain ⟨C9, e9⟩ : ∃ D : Nat → PC, D = updC C8 (a + 5) (100, List.replicate 10 (.int 0)) := ⟨_, rfl⟩
  refine h_newarr (pc := 39) (M := 10) (dK D_Stories_init 20 rfl) rfl (leK rfl) (leK rfl) (by unfold nCell; omega) (by rw [show C8 (a + 5) = C (a + 5) from ((congrFun e8 _).trans (updC_ne (by omega))).trans (((congrFun e7 _).trans (updC_ne (by omega))).trans (((congrFun e6 _).trans (updC_ne (by omega))).trans (((congrFun e5 _).trans (updC_ne (by omega))).trans (((congrFun e4 _).trans (updC_ne (by omega))).trans (((congrFun e3 _).trans (updC_ne (by omega))).trans (((congrFun e2 _).trans (updC_ne (by omega))).trans (((congrFun e1 _).trans (updC_ne (by omega))).trans (rfl))))))))]; exact hC _ (by omega) (by omega)) e9 ?_
  have f9 : C9 a = (9, [.ref (a + 1), .ref (a + 2), .ref (a + 3), .ref (a + 4), .null, .int 0]) := by rw [e9, updC_ne (by omega)]; exact f8
  obtain ⟨C10, e10⟩ : ∃ D : Nat → PC, D = updC C9 a (9, [.ref (a + 1), .ref (a + 2), .ref (a + 3), .ref (a + 4), .ref (a + 5), .int 0]) := ⟨_, rfl⟩
  refine h_putF (pc := 41) (ci := 9) (f := 4) (dK D_Stories_init 21 rfl) q_159 (ltK rfl) (ltK rfl) rfl rfl rfl (okV_arr _ _) (by unfold nCell; omega) f9 (ltK rfl) rfl e10 ?_
  have f10 : C10 a = (9, [.ref (a + 1), .ref (a + 2), .ref (a + 3), .ref (a + 4), .ref (a + 5), .int 0]) := by rw [e10]; exact updC_eq
  exact x_return (pc := 44) (dK D_Stories_init 22 rfl) rfl (leK rfl) (leK rfl) ⟨rfl, C10, rfl, fun x hx => ((congrFun e10 _).trans (updC_ne (by omega))).trans (((congrFun e9 _).trans (updC_ne (by omega))).trans (((congrFun e8 _).trans (updC_ne (by omega))).trans (((congrFun e7 _).trans (updC_ne (by omega))).trans (((congrFun e6 _).trans (updC_ne (by omega))).trans (((congrFun e5 _).trans (updC_ne (by omega))).trans (((congrFun e4 _).trans (updC_ne (by omega))).trans (((congrFun e3 _).trans (updC_ne (by omega))).trans (((congrFun e2 _).trans (updC_ne (by omega))).trans (((congrFun e1 _).trans (updC_ne (by omega))).trans (rfl)))))))))), ⟨f10, ⟨((congrFun e10 _).trans (updC_ne (by omega))).trans (((congrFun e9 _).trans (updC_ne (by omega))).trans (((congrFun e8 _).trans (updC_ne (by omega))).trans (((congrFun e7 _).trans (updC_ne (by omega))).trans (((congrFun e6 _).trans (updC_ne (by omega))).trans (((congrFun e5 _).trans (updC_ne (by omega))).trans (((congrFun e4 _).trans (updC_ne (by omega))).trans (((congrFun e3 _).trans (updC_ne (by omega))).trans (((congrFun e2 _).trans (updC_ne (by omega))).trans ((congrFun e1 _).trans updC_eq))))))))), ⟨((congrFun e10 _).trans (updC_ne (by omega))).trans (((congrFun e9 _).trans (updC_ne (by omega))).trans (((congrFun e8 _).trans (updC_ne (by omega))).trans (((congrFun e7 _).trans (updC_ne (by omega))).trans (((congrFun e6 _).trans (updC_ne (by omega))).trans (((congrFun e5 _).trans (updC_ne (by omega))).trans (((congrFun e4 _).trans (updC_ne (by omega))).trans ((congrFun e3 _).trans updC_eq))))))), ⟨((congrFun e10 _).trans (updC_ne (by omega))).trans (((congrFun e9 _).trans (updC_ne (by omega))).trans (((congrFun e8 _).trans (updC_ne (by omega))).trans (((congrFun e7 _).trans (updC_ne (by omega))).trans (((congrFun e6 _).trans (updC_ne (by omega))).trans ((congrFun e5 _).trans updC_eq))))), ⟨((congrFun e10 _).trans (updC_ne (by omega))).trans (((congrFun e9 _).trans (updC_ne (by omega))).trans (((congrFun e8 _).trans (updC_ne (by omega))).trans ((congrFun e7 _).trans updC_eq))), ⟨((congrFun e10 _).trans (updC_ne (by omega))).trans ((congrFun e9 _).trans updC_eq), trivial⟩⟩⟩⟩⟩⟩⟩
def Standbys_l (a : Nat) : List PC := (7, [.ref (a + 1), .ref (a + 2), .int 0]) :: ((100, List.replicate 8 (.int 0)) :: ((100, List.replicate 8 (.int 0)) :: ([])))

theorem ct_Standbys {sc : SC} {C : Nat → PC} {a : Nat} (hx : a + 3 ≤ nCell) (h0 : C a = (7, dfl 7)) (hC : ∀ x, a < x → x < a + 3 → 900 ≤ (C x).1) : EvX sc M_Standbys_init [.ref a] (wdC nCell C) 2 16 (PostH C a 3 (Standbys_l a)) := by
  refine EvX.of pn_Standbys rfl (leK rfl) ?_
  show GX sc M_Standbys_init 2 16 0 [(0, .ref a)] [] (wdC nCell C) 0 0 _
  unfold nCell at hx
  have h0 : C a = (7, [.null, .null, .int 0]) := h0
  refine x_aloadn (pc := 0) (i0 := 0) (j := 0) (dK D_Standbys_init 0 rfl) rfl rfl ?_
  refine x_objinit (pc := 1) (dK D_Standbys_init 1 rfl) q_187 (leK rfl) (leK rfl) (leK rfl) ?_
  refine x_aloadn (pc := 4) (i0 := 0) (j := 0) (dK D_Standbys_init 2 rfl) rfl rfl ?_
  refine h_bipush (pc := 5) (dK D_Standbys_init 3 rfl) rfl ?_
  obtain ⟨C1, e1⟩ : ∃ D : Nat → PC, D = updC C (a + 1) (100, List.replicate 8 (.int 0)) := ⟨_, rfl⟩
  refine h_newarr (pc := 7) (M := 8) (dK D_Standbys_init 4 rfl) rfl (leK rfl) (leK rfl) (by unfold nCell; omega) (by rw [show C (a + 1) = C (a + 1) from rfl]; exact hC _ (by omega) (by omega)) e1 ?_
  have f1 : C1 a = (7, [.null, .null, .int 0]) := by rw [e1, updC_ne (by omega)]; exact h0
  obtain ⟨C2, e2⟩ : ∃ D : Nat → PC, D = updC C1 a (7, [.ref (a + 1), .null, .int 0]) := ⟨_, rfl⟩
  refine h_putF (pc := 9) (ci := 7) (f := 0) (dK D_Standbys_init 5 rfl) q_188 (ltK rfl) (ltK rfl) rfl rfl rfl (okV_arr _ _) (by unfold nCell; omega) f1 (ltK rfl) rfl e2 ?_
  have f2 : C2 a = (7, [.ref (a + 1), .null, .int 0]) := by rw [e2]; exact updC_eq
  refine x_aloadn (pc := 12) (i0 := 0) (j := 0) (dK D_Standbys_init 6 rfl) rfl rfl ?_
  refine h_bipush (pc := 13) (dK D_Standbys_init 7 rfl) rfl ?_
  obtain ⟨C3, e3⟩ : ∃ D : Nat → PC, D = updC C2 (a + 2) (100, List.replicate 8 (.int 0)) := ⟨_, rfl⟩
  refine h_newarr (pc := 15) (M := 8) (dK D_Standbys_init 8 rfl) rfl (leK rfl) (leK rfl) (by unfold nCell; omega) (by rw [show C2 (a + 2) = C (a + 2) from ((congrFun e2 _).trans (updC_ne (by omega))).trans (((congrFun e1 _).trans (updC_ne (by omega))).trans (rfl))]; exact hC _ (by omega) (by omega)) e3 ?_
  have f3 : C3 a = (7, [.ref (a + 1), .null, .int 0]) := by rw [e3, updC_ne (by omega)]; exact f2
  obtain ⟨C4, e4⟩ : ∃ D : Nat → PC, D = updC C3 a (7, [.ref (a + 1), .ref (a + 2), .int 0]) := ⟨_, rfl⟩
  refine h_putF (pc := 17) (ci := 7) (f := 1) (dK D_Standbys_init 9 rfl) q_191 (ltK rfl) (ltK rfl) rfl rfl rfl (okV_arr _ _) (by unfold nCell; omega) f3 (ltK rfl) rfl e4 ?_
  have f4 : C4 a = (7, [.ref (a + 1), .ref (a + 2), .int 0]) := by rw [e4]; exact updC_eq
  exact x_return (pc := 20) (dK D_Standbys_init 10 rfl) rfl (leK rfl) (leK rfl) ⟨rfl, C4, rfl, fun x hx => ((congrFun e4 _).trans (updC_ne (by omega))).trans (((congrFun e3 _).trans (updC_ne (by omega))).trans (((congrFun e2 _).trans (updC_ne (by omega))).trans (((congrFun e1 _).trans (updC_ne (by omega))).trans (rfl)))), ⟨f4, ⟨((congrFun e4 _).trans (updC_ne (by omega))).trans (((congrFun e3 _).trans (updC_ne (by omega))).trans (((congrFun e2 _).trans (updC_ne (by omega))).trans ((congrFun e1 _).trans updC_eq))), ⟨((congrFun e4 _).trans (updC_ne (by omega))).trans ((congrFun e3 _).trans updC_eq), trivial⟩⟩⟩⟩
def Forms_l (a : Nat) : List PC := (2, [.ref (a + 1), .ref (a + 2), .ref (a + 3)]) :: ((100, List.replicate 8 (.int 0)) :: ((100, List.replicate 8 (.int 0)) :: ((100, List.replicate 8 (.int 0)) :: ([]))))

theorem ct_Forms {sc : SC} {C : Nat → PC} {a : Nat} (hx : a + 4 ≤ nCell) (h0 : C a = (2, dfl 2)) (hC : ∀ x, a < x → x < a + 4 → 900 ≤ (C x).1) : EvX sc M_Forms_init [.ref a] (wdC nCell C) 3 24 (PostH C a 4 (Forms_l a)) := by
  refine EvX.of pn_Forms rfl (leK rfl) ?_
  show GX sc M_Forms_init 3 24 0 [(0, .ref a)] [] (wdC nCell C) 0 0 _
  unfold nCell at hx
  have h0 : C a = (2, [.null, .null, .null]) := h0
  refine x_aloadn (pc := 0) (i0 := 0) (j := 0) (dK D_Forms_init 0 rfl) rfl rfl ?_
  refine x_objinit (pc := 1) (dK D_Forms_init 1 rfl) q_210 (leK rfl) (leK rfl) (leK rfl) ?_
  refine x_aloadn (pc := 4) (i0 := 0) (j := 0) (dK D_Forms_init 2 rfl) rfl rfl ?_
  refine h_bipush (pc := 5) (dK D_Forms_init 3 rfl) rfl ?_
  obtain ⟨C1, e1⟩ : ∃ D : Nat → PC, D = updC C (a + 1) (100, List.replicate 8 (.int 0)) := ⟨_, rfl⟩
  refine h_newarr (pc := 7) (M := 8) (dK D_Forms_init 4 rfl) rfl (leK rfl) (leK rfl) (by unfold nCell; omega) (by rw [show C (a + 1) = C (a + 1) from rfl]; exact hC _ (by omega) (by omega)) e1 ?_
  have f1 : C1 a = (2, [.null, .null, .null]) := by rw [e1, updC_ne (by omega)]; exact h0
  obtain ⟨C2, e2⟩ : ∃ D : Nat → PC, D = updC C1 a (2, [.ref (a + 1), .null, .null]) := ⟨_, rfl⟩
  refine h_putF (pc := 9) (ci := 2) (f := 0) (dK D_Forms_init 5 rfl) q_211 (ltK rfl) (ltK rfl) rfl rfl rfl (okV_arr _ _) (by unfold nCell; omega) f1 (ltK rfl) rfl e2 ?_
  have f2 : C2 a = (2, [.ref (a + 1), .null, .null]) := by rw [e2]; exact updC_eq
  refine x_aloadn (pc := 12) (i0 := 0) (j := 0) (dK D_Forms_init 6 rfl) rfl rfl ?_
  refine h_bipush (pc := 13) (dK D_Forms_init 7 rfl) rfl ?_
  obtain ⟨C3, e3⟩ : ∃ D : Nat → PC, D = updC C2 (a + 2) (100, List.replicate 8 (.int 0)) := ⟨_, rfl⟩
  refine h_newarr (pc := 15) (M := 8) (dK D_Forms_init 8 rfl) rfl (leK rfl) (leK rfl) (by unfold nCell; omega) (by rw [show C2 (a + 2) = C (a + 2) from ((congrFun e2 _).trans (updC_ne (by omega))).trans (((congrFun e1 _).trans (updC_ne (by omega))).trans (rfl))]; exact hC _ (by omega) (by omega)) e3 ?_
  have f3 : C3 a = (2, [.ref (a + 1), .null, .null]) := by rw [e3, updC_ne (by omega)]; exact f2
  obtain ⟨C4, e4⟩ : ∃ D : Nat → PC, D = updC C3 a (2, [.ref (a + 1), .ref (a + 2), .null]) := ⟨_, rfl⟩
  refine h_putF (pc := 17) (ci := 2) (f := 1) (dK D_Forms_init 9 rfl) q_216 (ltK rfl) (ltK rfl) rfl rfl rfl (okV_arr _ _) (by unfold nCell; omega) f3 (ltK rfl) rfl e4 ?_
  have f4 : C4 a = (2, [.ref (a + 1), .ref (a + 2), .null]) := by rw [e4]; exact updC_eq
  refine x_aloadn (pc := 20) (i0 := 0) (j := 0) (dK D_Forms_init 10 rfl) rfl rfl ?_
  refine h_bipush (pc := 21) (dK D_Forms_init 11 rfl) rfl ?_
  obtain ⟨C5, e5⟩ : ∃ D : Nat → PC, D = updC C4 (a + 3) (100, List.replicate 8 (.int 0)) := ⟨_, rfl⟩
  refine h_newarr (pc := 23) (M := 8) (dK D_Forms_init 12 rfl) rfl (leK rfl) (leK rfl) (by unfold nCell; omega) (by rw [show C4 (a + 3) = C (a + 3) from ((congrFun e4 _).trans (updC_ne (by omega))).trans (((congrFun e3 _).trans (updC_ne (by omega))).trans (((congrFun e2 _).trans (updC_ne (by omega))).trans (((congrFun e1 _).trans (updC_ne (by omega))).trans (rfl))))]; exact hC _ (by omega) (by omega)) e5 ?_
  have f5 : C5 a = (2, [.ref (a + 1), .ref (a + 2), .null]) := by rw [e5, updC_ne (by omega)]; exact f4
  obtain ⟨C6, e6⟩ : ∃ D : Nat → PC, D = updC C5 a (2, [.ref (a + 1), .ref (a + 2), .ref (a + 3)]) := ⟨_, rfl⟩
  refine h_putF (pc := 25) (ci := 2) (f := 2) (dK D_Forms_init 13 rfl) q_220 (ltK rfl) (ltK rfl) rfl rfl rfl (okV_arr _ _) (by unfold nCell; omega) f5 (ltK rfl) rfl e6 ?_
  have f6 : C6 a = (2, [.ref (a + 1), .ref (a + 2), .ref (a + 3)]) := by rw [e6]; exact updC_eq
  exact x_return (pc := 28) (dK D_Forms_init 14 rfl) rfl (leK rfl) (leK rfl) ⟨rfl, C6, rfl, fun x hx => ((congrFun e6 _).trans (updC_ne (by omega))).trans (((congrFun e5 _).trans (updC_ne (by omega))).trans (((congrFun e4 _).trans (updC_ne (by omega))).trans (((congrFun e3 _).trans (updC_ne (by omega))).trans (((congrFun e2 _).trans (updC_ne (by omega))).trans (((congrFun e1 _).trans (updC_ne (by omega))).trans (rfl)))))), ⟨f6, ⟨((congrFun e6 _).trans (updC_ne (by omega))).trans (((congrFun e5 _).trans (updC_ne (by omega))).trans (((congrFun e4 _).trans (updC_ne (by omega))).trans (((congrFun e3 _).trans (updC_ne (by omega))).trans (((congrFun e2 _).trans (updC_ne (by omega))).trans ((congrFun e1 _).trans updC_eq))))), ⟨((congrFun e6 _).trans (updC_ne (by omega))).trans (((congrFun e5 _).trans (updC_ne (by omega))).trans (((congrFun e4 _).trans (updC_ne (by omega))).trans ((congrFun e3 _).trans updC_eq))), ⟨((congrFun e6 _).trans (updC_ne (by omega))).trans ((congrFun e5 _).trans updC_eq), trivial⟩⟩⟩⟩⟩
def State_l (a : Nat) : List PC := (8, [.ref (a + 1), .ref (a + 9), .ref (a + 15), .ref (a + 18), .int 0, .int 0, .int 0, .int 0]) :: ((Ads_l (a + 1)) ++ ((Stories_l (a + 9)) ++ ((Standbys_l (a + 15)) ++ ((Forms_l (a + 18)) ++ ([])))))

theorem ct_State {sc : SC} {C : Nat → PC} {a : Nat} (hx : a + 22 ≤ nCell) (h0 : C a = (8, dfl 8)) (hC : ∀ x, a < x → x < a + 22 → 900 ≤ (C x).1) : EvX sc M_State_init [.ref a] (wdC nCell C) 21 390 (PostH C a 22 (State_l a)) := by
  refine EvX.of pn_State rfl (leK rfl) ?_
  show GX sc M_State_init 21 390 0 [(0, .ref a)] [] (wdC nCell C) 0 0 _
  unfold nCell at hx
  have h0 : C a = (8, [.null, .null, .null, .null, .int 0, .int 0, .int 0, .int 0]) := h0
  refine x_aloadn (pc := 0) (i0 := 0) (j := 0) (dK D_State_init 0 rfl) rfl rfl ?_
  refine x_objinit (pc := 1) (dK D_State_init 1 rfl) q_80 (leK rfl) (leK rfl) (leK rfl) ?_
  refine x_aloadn (pc := 4) (i0 := 0) (j := 0) (dK D_State_init 2 rfl) rfl rfl ?_
  obtain ⟨C1, e1⟩ : ∃ D : Nat → PC, D = updC C (a + 1) (0, dfl 0) := ⟨_, rfl⟩
  refine h_new (pc := 5) (ci := 0) (dK D_State_init 3 rfl) (ltK rfl) q_81 q_82 q_6 (leK rfl) (leK rfl) (by unfold nCell; omega) (by rw [show C (a + 1) = C (a + 1) from rfl]; exact hC _ (by omega) (by omega)) e1 ?_
  have f1 : C1 a = (8, [.null, .null, .null, .null, .int 0, .int 0, .int 0, .int 0]) := by rw [e1, updC_ne (by omega)]; exact h0
  refine x_dup (pc := 8) (dK D_State_init 4 rfl) rfl ?_
  refine x_callIN (pc := 9) (As := []) (rest := [.ref (a + 1), .ref a]) (mc' := 7) (ms' := 280) (dK D_State_init 5 rfl) K_State_9 (fitK rfl) rfl (leK rfl) (leK rfl) (leK rfl) (ct_Ads (C := C1) (a := (a + 1)) (by unfold nCell; omega) ((congrFun e1 _).trans updC_eq) (fun x h1 h2 => by rw [show C1 x = C x from ((congrFun e1 _).trans (updC_ne (by omega))).trans (rfl)]; exact hC x (by omega) (by omega))) (postH (fun C2 p2 b2_0 => ?_))
  have f2 : C2 a = (8, [.null, .null, .null, .null, .int 0, .int 0, .int 0, .int 0]) := by rw [p2 a (by omega)]; exact f1
  show GX sc M_State_init 21 390 12 [(0, .ref a)] [.ref (a + 1), .ref a] (wdC nCell C2) _ _ _
  obtain ⟨C3, e3⟩ : ∃ D : Nat → PC, D = updC C2 a (8, [.ref (a + 1), .null, .null, .null, .int 0, .int 0, .int 0, .int 0]) := ⟨_, rfl⟩
  refine h_putF (pc := 12) (ci := 8) (f := 0) (dK D_State_init 6 rfl) q_231 (ltK rfl) (ltK rfl) rfl rfl rfl (okV_obj _ _) (by unfold nCell; omega) f2 (ltK rfl) rfl e3 ?_
  have f3 : C3 a = (8, [.ref (a + 1), .null, .null, .null, .int 0, .int 0, .int 0, .int 0]) := by rw [e3]; exact updC_eq
  refine x_aloadn (pc := 15) (i0 := 0) (j := 0) (dK D_State_init 7 rfl) rfl rfl ?_
  obtain ⟨C4, e4⟩ : ∃ D : Nat → PC, D = updC C3 (a + 9) (9, dfl 9) := ⟨_, rfl⟩
  refine h_new (pc := 16) (ci := 9) (dK D_State_init 8 rfl) (ltK rfl) q_138 q_139 q_7 (leK rfl) (leK rfl) (by unfold nCell; omega) (by rw [show C3 (a + 9) = C (a + 9) from ((congrFun e3 _).trans (updC_ne (by omega))).trans ((p2 _ (by omega)).trans (((congrFun e1 _).trans (updC_ne (by omega))).trans (rfl)))]; exact hC _ (by omega) (by omega)) e4 ?_
  have f4 : C4 a = (8, [.ref (a + 1), .null, .null, .null, .int 0, .int 0, .int 0, .int 0]) := by rw [e4, updC_ne (by omega)]; exact f3
  refine x_dup (pc := 19) (dK D_State_init 9 rfl) rfl ?_
  refine x_callIN (pc := 20) (As := []) (rest := [.ref (a + 9), .ref a]) (mc' := 5) (ms' := 50) (dK D_State_init 10 rfl) K_State_18 (fitK rfl) rfl (leK rfl) (leK rfl) (leK rfl) (ct_Stories (C := C4) (a := (a + 9)) (by unfold nCell; omega) ((congrFun e4 _).trans updC_eq) (fun x h1 h2 => by rw [show C4 x = C x from ((congrFun e4 _).trans (updC_ne (by omega))).trans (((congrFun e3 _).trans (updC_ne (by omega))).trans ((p2 _ (by omega)).trans (((congrFun e1 _).trans (updC_ne (by omega))).trans (rfl))))]; exact hC x (by omega) (by omega))) (postH (fun C5 p5 b5_0 => ?_))
  have f5 : C5 a = (8, [.ref (a + 1), .null, .null, .null, .int 0, .int 0, .int 0, .int 0]) := by rw [p5 a (by omega)]; exact f4
  show GX sc M_State_init 21 390 23 [(0, .ref a)] [.ref (a + 9), .ref a] (wdC nCell C5) _ _ _
  obtain ⟨C6, e6⟩ : ∃ D : Nat → PC, D = updC C5 a (8, [.ref (a + 1), .ref (a + 9), .null, .null, .int 0, .int 0, .int 0, .int 0]) := ⟨_, rfl⟩
  refine h_putF (pc := 23) (ci := 8) (f := 1) (dK D_State_init 11 rfl) q_236 (ltK rfl) (ltK rfl) rfl rfl rfl (okV_obj _ _) (by unfold nCell; omega) f5 (ltK rfl) rfl e6 ?_
  have f6 : C6 a = (8, [.ref (a + 1), .ref (a + 9), .null, .null, .int 0, .int 0, .int 0, .int 0]) := by rw [e6]; exact updC_eq
  refine x_aloadn (pc := 26) (i0 := 0) (j := 0) (dK D_State_init 12 rfl) rfl rfl ?_
  obtain ⟨C7, e7⟩ : ∃ D : Nat → PC, D = updC C6 (a + 15) (7, dfl 7) := ⟨_, rfl⟩
  refine h_new (pc := 27) (ci := 7) (dK D_State_init 13 rfl) (ltK rfl) q_182 q_183 q_8 (leK rfl) (leK rfl) (by unfold nCell; omega) (by rw [show C6 (a + 15) = C (a + 15) from ((congrFun e6 _).trans (updC_ne (by omega))).trans ((p5 _ (by omega)).trans (((congrFun e4 _).trans (updC_ne (by omega))).trans (((congrFun e3 _).trans (updC_ne (by omega))).trans ((p2 _ (by omega)).trans (((congrFun e1 _).trans (updC_ne (by omega))).trans (rfl))))))]; exact hC _ (by omega) (by omega)) e7 ?_
  have f7 : C7 a = (8, [.ref (a + 1), .ref (a + 9), .null, .null, .int 0, .int 0, .int 0, .int 0]) := by rw [e7, updC_ne (by omega)]; exact f6
  refine x_dup (pc := 30) (dK D_State_init 14 rfl) rfl ?_
  refine x_callIN (pc := 31) (As := []) (rest := [.ref (a + 15), .ref a]) (mc' := 2) (ms' := 16) (dK D_State_init 15 rfl) K_State_25 (fitK rfl) rfl (leK rfl) (leK rfl) (leK rfl) (ct_Standbys (C := C7) (a := (a + 15)) (by unfold nCell; omega) ((congrFun e7 _).trans updC_eq) (fun x h1 h2 => by rw [show C7 x = C x from ((congrFun e7 _).trans (updC_ne (by omega))).trans (((congrFun e6 _).trans (updC_ne (by omega))).trans ((p5 _ (by omega)).trans (((congrFun e4 _).trans (updC_ne (by omega))).trans (((congrFun e3 _).trans (updC_ne (by omega))).trans ((p2 _ (by omega)).trans (((congrFun e1 _).trans (updC_ne (by omega))).trans (rfl)))))))]; exact hC x (by omega) (by omega))) (postH (fun C8 p8 b8_0 => ?_))
  have f8 : C8 a = (8, [.ref (a + 1), .ref (a + 9), .null, .null, .int 0, .int 0, .int 0, .int 0]) := by rw [p8 a (by omega)]; exact f7
  show GX sc M_State_init 21 390 34 [(0, .ref a)] [.ref (a + 15), .ref a] (wdC nCell C8) _ _ _
  obtain ⟨C9, e9⟩ : ∃ D : Nat → PC, D = updC C8 a (8, [.ref (a + 1), .ref (a + 9), .ref (a + 15), .null, .int 0, .int 0, .int 0, .int 0]) := ⟨_, rfl⟩
  refine h_putF (pc := 34) (ci := 8) (f := 2) (dK D_State_init 16 rfl) q_241 (ltK rfl) (ltK rfl) rfl rfl rfl (okV_obj _ _) (by unfold nCell; omega) f8 (ltK rfl) rfl e9 ?_
  have f9 : C9 a = (8, [.ref (a + 1), .ref (a + 9), .ref (a + 15), .null, .int 0, .int 0, .int 0, .int 0]) := by rw [e9]; exact updC_eq
  refine x_aloadn (pc := 37) (i0 := 0) (j := 0) (dK D_State_init 17 rfl) rfl rfl ?_
  obtain ⟨C10, e10⟩ : ∃ D : Nat → PC, D = updC C9 (a + 18) (2, dfl 2) := ⟨_, rfl⟩
  refine h_new (pc := 38) (ci := 2) (dK D_State_init 18 rfl) (ltK rfl) q_205 q_206 q_9 (leK rfl) (leK rfl) (by unfold nCell; omega) (by rw [show C9 (a + 18) = C (a + 18) from ((congrFun e9 _).trans (updC_ne (by omega))).trans ((p8 _ (by omega)).trans (((congrFun e7 _).trans (updC_ne (by omega))).trans (((congrFun e6 _).trans (updC_ne (by omega))).trans ((p5 _ (by omega)).trans (((congrFun e4 _).trans (updC_ne (by omega))).trans (((congrFun e3 _).trans (updC_ne (by omega))).trans ((p2 _ (by omega)).trans (((congrFun e1 _).trans (updC_ne (by omega))).trans (rfl)))))))))]; exact hC _ (by omega) (by omega)) e10 ?_
  have f10 : C10 a = (8, [.ref (a + 1), .ref (a + 9), .ref (a + 15), .null, .int 0, .int 0, .int 0, .int 0]) := by rw [e10, updC_ne (by omega)]; exact f9
  refine x_dup (pc := 41) (dK D_State_init 19 rfl) rfl ?_
  refine x_callIN (pc := 42) (As := []) (rest := [.ref (a + 18), .ref a]) (mc' := 3) (ms' := 24) (dK D_State_init 20 rfl) K_State_32 (fitK rfl) rfl (leK rfl) (leK rfl) (leK rfl) (ct_Forms (C := C10) (a := (a + 18)) (by unfold nCell; omega) ((congrFun e10 _).trans updC_eq) (fun x h1 h2 => by rw [show C10 x = C x from ((congrFun e10 _).trans (updC_ne (by omega))).trans (((congrFun e9 _).trans (updC_ne (by omega))).trans ((p8 _ (by omega)).trans (((congrFun e7 _).trans (updC_ne (by omega))).trans (((congrFun e6 _).trans (updC_ne (by omega))).trans ((p5 _ (by omega)).trans (((congrFun e4 _).trans (updC_ne (by omega))).trans (((congrFun e3 _).trans (updC_ne (by omega))).trans ((p2 _ (by omega)).trans (((congrFun e1 _).trans (updC_ne (by omega))).trans (rfl))))))))))]; exact hC x (by omega) (by omega))) (postH (fun C11 p11 b11_0 => ?_))
  have f11 : C11 a = (8, [.ref (a + 1), .ref (a + 9), .ref (a + 15), .null, .int 0, .int 0, .int 0, .int 0]) := by rw [p11 a (by omega)]; exact f10
  show GX sc M_State_init 21 390 45 [(0, .ref a)] [.ref (a + 18), .ref a] (wdC nCell C11) _ _ _
  obtain ⟨C12, e12⟩ : ∃ D : Nat → PC, D = updC C11 a (8, [.ref (a + 1), .ref (a + 9), .ref (a + 15), .ref (a + 18), .int 0, .int 0, .int 0, .int 0]) := ⟨_, rfl⟩
  refine h_putF (pc := 45) (ci := 8) (f := 3) (dK D_State_init 21 rfl) q_245 (ltK rfl) (ltK rfl) rfl rfl rfl (okV_obj _ _) (by unfold nCell; omega) f11 (ltK rfl) rfl e12 ?_
  have f12 : C12 a = (8, [.ref (a + 1), .ref (a + 9), .ref (a + 15), .ref (a + 18), .int 0, .int 0, .int 0, .int 0]) := by rw [e12]; exact updC_eq
  exact x_return (pc := 48) (dK D_State_init 22 rfl) rfl (leK rfl) (leK rfl) ⟨rfl, C12, rfl, fun x hx => ((congrFun e12 _).trans (updC_ne (by omega))).trans ((p11 _ (by omega)).trans (((congrFun e10 _).trans (updC_ne (by omega))).trans (((congrFun e9 _).trans (updC_ne (by omega))).trans ((p8 _ (by omega)).trans (((congrFun e7 _).trans (updC_ne (by omega))).trans (((congrFun e6 _).trans (updC_ne (by omega))).trans ((p5 _ (by omega)).trans (((congrFun e4 _).trans (updC_ne (by omega))).trans (((congrFun e3 _).trans (updC_ne (by omega))).trans ((p2 _ (by omega)).trans (((congrFun e1 _).trans (updC_ne (by omega))).trans (rfl)))))))))))), ⟨f12, Blk.app' (n := 8) rfl (Blk.pres (fun x h1 h2 => ((congrFun e12 _).trans (updC_ne (by have h2 : x < _ + 8 := h2; omega))).trans ((p11 _ (by have h2 : x < _ + 8 := h2; omega)).trans (((congrFun e10 _).trans (updC_ne (by have h2 : x < _ + 8 := h2; omega))).trans (((congrFun e9 _).trans (updC_ne (by have h2 : x < _ + 8 := h2; omega))).trans ((p8 _ (by have h2 : x < _ + 8 := h2; omega)).trans (((congrFun e7 _).trans (updC_ne (by have h2 : x < _ + 8 := h2; omega))).trans (((congrFun e6 _).trans (updC_ne (by have h2 : x < _ + 8 := h2; omega))).trans ((p5 _ (by have h2 : x < _ + 8 := h2; omega)).trans (((congrFun e4 _).trans (updC_ne (by have h2 : x < _ + 8 := h2; omega))).trans (((congrFun e3 _).trans (updC_ne (by have h2 : x < _ + 8 := h2; omega))).trans (rfl))))))))))) b2_0) (Blk.app' (n := 6) rfl (Blk.pres (fun x h1 h2 => ((congrFun e12 _).trans (updC_ne (by have h2 : x < _ + 6 := h2; omega))).trans ((p11 _ (by have h2 : x < _ + 6 := h2; omega)).trans (((congrFun e10 _).trans (updC_ne (by have h2 : x < _ + 6 := h2; omega))).trans (((congrFun e9 _).trans (updC_ne (by have h2 : x < _ + 6 := h2; omega))).trans ((p8 _ (by have h2 : x < _ + 6 := h2; omega)).trans (((congrFun e7 _).trans (updC_ne (by have h2 : x < _ + 6 := h2; omega))).trans (((congrFun e6 _).trans (updC_ne (by have h2 : x < _ + 6 := h2; omega))).trans (rfl)))))))) b5_0) (Blk.app' (n := 3) rfl (Blk.pres (fun x h1 h2 => ((congrFun e12 _).trans (updC_ne (by have h2 : x < _ + 3 := h2; omega))).trans ((p11 _ (by have h2 : x < _ + 3 := h2; omega)).trans (((congrFun e10 _).trans (updC_ne (by have h2 : x < _ + 3 := h2; omega))).trans (((congrFun e9 _).trans (updC_ne (by have h2 : x < _ + 3 := h2; omega))).trans (rfl))))) b8_0) (Blk.app' (n := 4) rfl (Blk.pres (fun x h1 h2 => ((congrFun e12 _).trans (updC_ne (by have h2 : x < _ + 4 := h2; omega))).trans (rfl)) b11_0) (trivial))))⟩⟩
