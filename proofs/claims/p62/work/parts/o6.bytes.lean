/-! A TEXT'S BYTES, ITS TOKENS -/
section ByTok
variable {B : Int → Int} {L p s e z : Int} {V : Vw} {bs u w : List Int}
def Bs (bs : List Int) : Int → Int := fun j => if 0 ≤ j ∧ j < bs.length then bs.getD j.toNat 0 else -1
def SubA (B : Int → Int) (p : Int) (w : List Int) : Prop := ∀ i : Nat, i < w.length → B (p + i) = w.getD i 0
theorem SubA.app (h : SubA B p (u ++ w)) : SubA B p u ∧ SubA B (p + u.length) w := by
  refine ⟨fun i hi => ?_, fun i hi => ?_⟩
  · have q := h i (by rw [List.length_append]; omega)
    rw [getD_ap, if_pos hi] at q
    exact q
  · have q := h (u.length + i) (by rw [List.length_append]; omega)
    rw [getD_ap, if_neg (by omega), show u.length + i - u.length = i by omega] at q
    rw [← q]
    congr 1
    omega
theorem SubA.hd {x : Int} (h : SubA B p (x :: w)) : B p = x ∧ SubA B (p + 1) w := by
  have q := (SubA.app (u := [x]) (w := w) h)
  have q0 := q.1 0 (show 0 < 1 from Nat.zero_lt_one)
  rw [show p + ((0 : Nat) : Int) = p by omega] at q0
  exact ⟨q0, q.2⟩
theorem Bs_sub : SubA (Bs bs) 0 bs := fun i hi => by
  unfold Bs
  rw [if_pos (by omega), show (0 + (i : Int)).toNat = i by omega]
theorem Bs_txt (ha : Asc bs) (hl : bs.length ≤ 1600) : Txt (Bs bs) bs.length := by
  refine ⟨by omega, fun j hj => ?_, fun j j0 j1 => ?_⟩
  · unfold Bs
    rw [if_neg (by omega)]
  · have q := ha j.toNat (by omega)
    unfold Bs
    rw [if_pos ⟨j0, j1⟩]
    omega
theorem skW_run {q : Int → Bool} : ∀ {m : Nat} {p e : Int}, p ≤ e → e < p + m → (∀ j, p ≤ j → j < e → q j = true) → q e = false → skW q p m = e
  | 0, p, e, h1, h2, _, _ => by omega
  | m + 1, p, e, h1, h2, h3, h4 => by
    unfold skW
    by_cases c : p = e
    · rw [if_neg (by rw [c, h4]; exact Bool.false_ne_true)]
      exact c
    · rw [if_pos (h3 p (Int.le_refl _) (by omega))]
      exact skW_run (by omega) (by omega) (fun j j1 j2 => h3 j (by omega) j2) h4
/-- no blank; one blank -/
theorem tkS_n (hp : p < L) (h : B p ≠ 32 ∧ B p ≠ 10) : tkS B L p = p := by
  unfold tkS
  refine skW_run (Int.le_refl _) (by omega) (fun j j1 j2 => by omega) ?_
  exact decide_eq_false (by omega)
theorem tkS_1 (hp : p + 1 < L) (h0 : B p = 32) (h : B (p + 1) ≠ 32 ∧ B (p + 1) ≠ 10) : tkS B L p = p + 1 := by
  unfold tkS
  refine skW_run (by omega) (by omega) (fun j j1 j2 => ?_) ?_
  · have : j = p := by omega
    rw [this]
    exact decide_eq_true (.inl h0)
  · exact decide_eq_false (by omega)
theorem tkS_L : tkS B L L = L := by
  unfold tkS
  rw [Int.sub_self]
  rfl
theorem vlN_cg {a b : Int} {C : Int → Int} {t : Int} : ∀ {n : Nat}, (∀ i : Nat, i < n → B (s + i) = C (t + i)) → vlN a b B s n = vlN a b C t n
  | 0, _ => rfl
  | n + 1, h => by
    have ih := vlN_cg (a := a) (b := b) (n := n) (fun i hi => h i (by omega))
    show vlN a b B s n * a + B (s + n) - b = vlN a b C t n * a + C (t + n) - b
    rw [ih, h n (by omega)]
theorem tk_sem (hp : p < L) (h : B p = 59) : tkK B L p = 3 ∧ tkE B L p = p + 1 := by
  have k : tk0 B p = 3 := by unfold tk0 ltr dgt; rw [h]; rfl
  unfold tkK tkE
  rw [k]
  exact ⟨by rw [if_neg (fun w => absurd w.1 (by decide)), if_neg (fun w => absurd w.1 (by decide))], by rw [if_neg (by decide), if_neg (by decide), if_neg (by decide)]⟩
theorem dg_dig (hz : 0 ≤ z ∧ z < 1000) : ∀ i : Nat, i < (dg z).length → 48 ≤ (dg z).getD i 0 ∧ (dg z).getD i 0 ≤ 57 := fun i hi => by
  unfold dg at hi ⊢
  by_cases c : z < 10
  · rw [if_pos c] at hi ⊢
    have : i = 0 := by have e : ([48 + z % 10] : List Int).length = 1 := rfl; omega
    subst this
    show 48 ≤ 48 + z % 10 ∧ 48 + z % 10 ≤ 57
    omega
  · rw [if_neg c] at hi ⊢
    by_cases d : z < 100
    · rw [if_pos d] at hi ⊢
      have e : ([48 + z / 10, 48 + z % 10] : List Int).length = 2 := rfl
      have : i = 0 ∨ i = 1 := by omega
      rcases this with rfl | rfl
      · show 48 ≤ 48 + z / 10 ∧ 48 + z / 10 ≤ 57
        omega
      · show 48 ≤ 48 + z % 10 ∧ 48 + z % 10 ≤ 57
        omega
    · rw [if_neg d] at hi ⊢
      have e : ([48 + z / 100, 48 + z / 10 % 10, 48 + z % 10] : List Int).length = 3 := rfl
      have : i = 0 ∨ i = 1 ∨ i = 2 := by omega
      rcases this with rfl | rfl | rfl
      · show 48 ≤ 48 + z / 100 ∧ 48 + z / 100 ≤ 57
        omega
      · show 48 ≤ 48 + z / 10 % 10 ∧ 48 + z / 10 % 10 ≤ 57
        omega
      · show 48 ≤ 48 + z % 10 ∧ 48 + z % 10 ≤ 57
        omega
theorem dg_vl (hz : 0 ≤ z ∧ z < 1000) (h : SubA B s (dg z)) : vlN 10 48 B s (dg z).length = z := by
  have h0 : ∀ i : Nat, i < (dg z).length → B (s + i) = (dg z).getD i 0 := h
  unfold dg at h0 ⊢
  by_cases c : z < 10
  · rw [if_pos c] at h0 ⊢
    have e0 := h0 0 (by show 0 < 1; decide)
    have e0 : B (s + (0 : Nat)) = 48 + z % 10 := e0
    show (0 : Int) * 10 + B (s + (0 : Nat)) - 48 = z
    omega
  · rw [if_neg c] at h0 ⊢
    by_cases d : z < 100
    · rw [if_pos d] at h0 ⊢
      have e0 := h0 0 (by show 0 < 2; decide)
      have e1 := h0 1 (by show 1 < 2; decide)
      have e0 : B (s + (0 : Nat)) = 48 + z / 10 := e0
      have e1 : B (s + (1 : Nat)) = 48 + z % 10 := e1
      show ((0 : Int) * 10 + B (s + (0 : Nat)) - 48) * 10 + B (s + (1 : Nat)) - 48 = z
      omega
    · rw [if_neg d] at h0 ⊢
      have e0 := h0 0 (by show 0 < 3; decide)
      have e1 := h0 1 (by show 1 < 3; decide)
      have e2 := h0 2 (by show 2 < 3; decide)
      have e0 : B (s + (0 : Nat)) = 48 + z / 100 := e0
      have e1 : B (s + (1 : Nat)) = 48 + z / 10 % 10 := e1
      have e2 : B (s + (2 : Nat)) = 48 + z % 10 := e2
      show (((0 : Int) * 10 + B (s + (0 : Nat)) - 48) * 10 + B (s + (1 : Nat)) - 48) * 10 + B (s + (2 : Nat)) - 48 = z
      omega
/-- a number in the text -/
theorem tk_num (hz : 0 ≤ z ∧ z < 1000) (h : SubA B s (dg z)) (hn : ¬ (48 ≤ B (s + (dg z).length) ∧ B (s + (dg z).length) ≤ 57)) (hl : s + (dg z).length < L) : (B s ≠ 32 ∧ B s ≠ 10) ∧ tkK B L s = 2 ∧ tkE B L s = s + (dg z).length ∧ vl B L s = z := by
  have le := dg_le (z := z)
  have dd := dg_dig hz
  have b0 := h 0 (by omega)
  rw [show s + ((0 : Nat) : Int) = s by omega] at b0
  have d0 := dd 0 (by omega)
  have k : tk0 B s = 2 := by
    unfold tk0 ltr dgt
    rw [if_neg (by omega), if_neg (by rw [decide_eq_true_eq]; omega), if_pos (decide_eq_true (by omega))]
  have eE : tkE B L s = s + (dg z).length := by
    unfold tkE
    rw [k, if_neg (by decide), if_neg (by decide), if_pos rfl]
    refine skW_run (by omega) (by omega) (fun j j1 j2 => ?_) (decide_eq_false hn)
    have q := h (j - s).toNat (by omega)
    have q2 := dd (j - s).toNat (by omega)
    rw [show s + (((j - s).toNat : Nat) : Int) = j by omega] at q
    exact decide_eq_true (by omega)
  refine ⟨by omega, ?_, eE, ?_⟩
  · unfold tkK
    rw [eE, k, if_neg (fun w => absurd w.1 (by decide)), if_neg (fun w => by omega)]
  · unfold vl
    rw [eE, show (s + ((dg z).length : Int) - s).toNat = (dg z).length by omega]
    exact dg_vl hz h
theorem mp_get {xs : List Int32} {i : Nat} (hi : i < xs.length) : (xs.map Int32.toInt).getD i 0 = (xs.getD i 0).toInt := by
  rw [List.getD_eq_getElem?_getD, List.getD_eq_getElem?_getD, List.getElem?_map, List.getElem?_eq_getElem hi]; rfl
theorem lit_get {j : Nat} : ∀ i : Nat, i < (litB j).length → (litB j).getD i 0 = chW j i := fun i hi => by
  unfold litB at hi ⊢
  rw [List.length_map] at hi
  exact mp_get hi
theorem litW_len : ∀ w : Nat, w < 8 → (litB w).length = lenS.getD w 0 ∧ 1 ≤ (litB w).length ∧ (litB w).length ≤ 8 := by decide +kernel
/-- a word in the text -/
theorem tk_word {w : Nat} (hw : w < 8) (h : SubA B s (litB w)) (hn : B (s + (litB w).length) = 32) (hl : s + (litB w).length < L) : (B s ≠ 32 ∧ B s ≠ 10) ∧ RdW B L s w ∧ tkE B L s = s + (litB w).length := by
  obtain ⟨l1, l2, l3⟩ := litW_len w hw
  have ch : ∀ i : Nat, i < (litB w).length → B (s + i) = chW w i ∧ 97 ≤ chW w i ∧ chW w i ≤ 122 := fun i hi => ⟨(h i hi).trans (lit_get i hi), wd_l w hw i (by omega)⟩
  have b0 := ch 0 (by omega)
  rw [show s + ((0 : Nat) : Int) = s by omega] at b0
  have k : tk0 B s = 1 := by
    unfold tk0 ltr
    rw [if_neg (by omega), if_pos (decide_eq_true (by omega))]
  have eE : tkE B L s = s + (litB w).length := by
    unfold tkE
    rw [k, if_neg (by decide), if_pos rfl]
    refine skW_run (by omega) (by omega) (fun j j1 j2 => ?_) (decide_eq_false (by rw [hn]; omega))
    have q := ch (j - s).toNat (by omega)
    rw [show s + (((j - s).toNat : Nat) : Int) = j by omega] at q
    exact decide_eq_true (by omega)
  refine ⟨by omega, ⟨?_, ?_⟩, eE⟩
  · unfold tkK
    rw [eE, if_neg (fun w => by omega), k, if_neg (fun w => absurd w.1 (by decide))]
  · rw [eE, show (s + ((litB w).length : Int) - s).toNat = (litB w).length by omega, l1]
    unfold kwv
    refine vlN_cg (fun i hi => ?_)
    rw [(ch i (by omega)).1]
    unfold wdI
    rw [show (0 + (i : Int)).toNat = i by omega]
/-! statements -/
def nmTx : List Int → List Int
  | [] => []
  | z :: zs => 32 :: (dg z ++ nmTx zs)
def enS (s : Stm) : List Int := if s.1 = 0 then [32, 59] else [59]
theorem lit_v : litB 13 = litB 0 ++ [32] ∧ litB 16 = litB 1 ++ [32] ∧ litB 18 = litB 2 ++ [32] ∧ litB 19 = litB 3 ++ [32] ∧ litB 20 = litB 4 ++ [32] ∧ litB 21 = litB 5 ++ [32] ∧ litB 22 = litB 6 ++ [32] ∧ litB 14 = [32] ∧ litB 15 = [59] ∧ litB 17 = [32, 59] ∧ litB 23 = [63] := by decide +kernel
theorem txS_eq {st : Stm} (h : st.1 < 6) : txS st = litB (st.1 + 1) ++ (nmTx (nmS st) ++ enS st) := by
  obtain ⟨k, x0, x1, x2, x3, x4, x5⟩ := st
  obtain ⟨v0, v1, v2, v3, v4, v5, v6, v7, v8, v9, v10⟩ := lit_v
  have h : k < 6 := h
  have : k = 0 ∨ k = 1 ∨ k = 2 ∨ k = 3 ∨ k = 4 ∨ k = 5 := by omega
  rcases this with rfl | rfl | rfl | rfl | rfl | rfl
  · show litB 16 ++ dg x0 ++ litB 17 = litB 1 ++ ((32 :: (dg x0 ++ [])) ++ [32, 59])
    rw [v1, v9]
    simp only [List.append_assoc, List.cons_append, List.nil_append, List.append_nil]
  · show litB 18 ++ dg x0 ++ litB 14 ++ dg x1 ++ litB 14 ++ dg x2 ++ litB 14 ++ dg x3 ++ litB 14 ++ dg x4 ++ litB 14 ++ dg x5 ++ litB 15 = litB 2 ++ ((32 :: (dg x0 ++ (32 :: (dg x1 ++ (32 :: (dg x2 ++ (32 :: (dg x3 ++ (32 :: (dg x4 ++ (32 :: (dg x5 ++ [])))))))))))) ++ [59])
    rw [v2, v7, v8]
    simp only [List.append_assoc, List.cons_append, List.nil_append, List.append_nil]
  · show litB 19 ++ dg x0 ++ litB 14 ++ dg x1 ++ litB 14 ++ dg x2 ++ litB 14 ++ dg x3 ++ litB 15 = litB 3 ++ ((32 :: (dg x0 ++ (32 :: (dg x1 ++ (32 :: (dg x2 ++ (32 :: (dg x3 ++ [])))))))) ++ [59])
    rw [v3, v7, v8]
    simp only [List.append_assoc, List.cons_append, List.nil_append, List.append_nil]
  · show litB 20 ++ dg x0 ++ litB 15 = litB 4 ++ ((32 :: (dg x0 ++ [])) ++ [59])
    rw [v4, v8]
    simp only [List.append_assoc, List.cons_append, List.nil_append, List.append_nil]
  · show litB 21 ++ dg x0 ++ litB 14 ++ dg x1 ++ litB 15 = litB 5 ++ ((32 :: (dg x0 ++ (32 :: (dg x1 ++ [])))) ++ [59])
    rw [v5, v7, v8]
    simp only [List.append_assoc, List.cons_append, List.nil_append, List.append_nil]
  · show litB 22 ++ dg x0 ++ litB 14 ++ dg x1 ++ litB 15 = litB 6 ++ ((32 :: (dg x0 ++ (32 :: (dg x1 ++ [])))) ++ [59])
    rw [v6, v7, v8]
    simp only [List.append_assoc, List.cons_append, List.nil_append, List.append_nil]
theorem nmTx_hd {en : List Int} (he : en = [59] ∨ en = [32, 59]) : ∀ zs : List Int, ∃ y ys, nmTx zs ++ en = y :: ys ∧ (y = 32 ∨ y = 59)
  | [] => by
    rcases he with rfl | rfl
    · exact ⟨59, [], rfl, .inr rfl⟩
    · exact ⟨32, [59], rfl, .inl rfl⟩
  | z :: zs => ⟨32, (dg z ++ nmTx zs) ++ en, rfl, .inl rfl⟩
theorem RdT_of {en : List Int} (he : en = [59] ∨ en = [32, 59]) : ∀ (zs : List Int) (p : Int), SubA B p (nmTx zs ++ en) → (∀ z ∈ zs, 0 ≤ z ∧ z < 1000) → p + (nmTx zs ++ en).length ≤ L → RdT B L p zs (p + (nmTx zs ++ en).length)
  | [], p, h, _, hl => by
    rcases he with rfl | rfl
    · have h1 := (SubA.hd (B := B) (p := p) (x := 59) (w := []) h).1
      have hl : p + 1 ≤ L := hl
      have t := tk_sem (B := B) (L := L) (p := p) (by omega) h1
      have e := tkS_n (B := B) (L := L) (p := p) (by omega) (by omega)
      refine ⟨by rw [e]; exact t.1, ?_⟩
      unfold rdN
      rw [e, t.2]; rfl
    · have h1 := SubA.hd (B := B) (p := p) (x := 32) (w := [59]) h
      have h2 := (SubA.hd (B := B) (p := p + 1) (x := 59) (w := []) h1.2).1
      have hl : p + 2 ≤ L := hl
      have t := tk_sem (B := B) (L := L) (p := p + 1) (by omega) h2
      have e := tkS_1 (B := B) (L := L) (p := p) (by omega) h1.1 (by omega)
      refine ⟨by rw [e]; exact t.1, ?_⟩
      unfold rdN
      rw [e, t.2]
      show p + 1 + 1 = p + 2
      omega
  | z :: zs, p, h, hz, hl => by
    obtain ⟨y, ys, ey, hy⟩ := nmTx_hd he zs
    have es : nmTx (z :: zs) ++ en = 32 :: (dg z ++ (nmTx zs ++ en)) := by
      show (32 :: (dg z ++ nmTx zs)) ++ en = _
      rw [List.cons_append, List.append_assoc]
    rw [es] at h hl ⊢
    have le := dg_le (z := z)
    have hlen : (32 :: (dg z ++ (nmTx zs ++ en))).length = 1 + (dg z).length + (nmTx zs ++ en).length := by
      rw [List.length_cons, List.length_append]; omega
    have len1 : 1 ≤ (nmTx zs ++ en).length := by rw [ey, List.length_cons]; omega
    rw [hlen] at hl ⊢
    have h1 := SubA.hd h
    have h2 := SubA.app h1.2
    have h3 : B (p + 1 + (dg z).length) = y := by
      have q := h2.2
      rw [ey] at q
      exact (SubA.hd q).1
    have t := tk_num (B := B) (L := L) (s := p + 1) (z := z) (hz z List.mem_cons_self) h2.1 (by rw [h3]; omega) (by omega)
    have e := tkS_1 (B := B) (L := L) (p := p) (by omega) h1.1 t.1
    refine ⟨by rw [e]; exact ⟨t.2.1, t.2.2.2⟩, ?_⟩
    have ih := RdT_of he zs (p + 1 + (dg z).length) h2.2 (fun x hx => hz x (List.mem_cons_of_mem _ hx)) (by omega)
    unfold rdN
    rw [e, t.2.2.1]
    rw [show p + ((1 + (dg z).length + (nmTx zs ++ en).length : Nat) : Int) = p + 1 + (dg z).length + (nmTx zs ++ en).length by omega]
    exact ih
theorem Rd_stT {st : Stm} (hk : st.1 < 6) (hz : ∀ z ∈ nmS st, 0 ≤ z ∧ z < 1000) (h : SubA B p (txS st)) (hl : p + (txS st).length ≤ L) : (B p ≠ 32 ∧ B p ≠ 10) ∧ p < L ∧ RdW B L p (st.1 + 1) ∧ RdT B L (tkE B L p) (nmS st) (p + (txS st).length) := by
  have he : enS st = [59] ∨ enS st = [32, 59] := by
    unfold enS
    split
    · exact .inr rfl
    · exact .inl rfl
  rw [txS_eq hk] at h hl ⊢
  obtain ⟨l1, l2, l3⟩ := litW_len (st.1 + 1) (by omega)
  have h1 := SubA.app h
  have n0 : ∃ x xs, nmS st = x :: xs := by
    obtain ⟨k, x0, x1, x2, x3, x4, x5⟩ := st
    have hk : k < 6 := hk
    have : k = 0 ∨ k = 1 ∨ k = 2 ∨ k = 3 ∨ k = 4 ∨ k = 5 := by omega
    rcases this with rfl | rfl | rfl | rfl | rfl | rfl <;> exact ⟨_, _, rfl⟩
  obtain ⟨x, xs, ex⟩ := n0
  have h2 : B (p + (litB (st.1 + 1)).length) = 32 := by
    have q := h1.2
    rw [ex] at q
    exact (SubA.hd (x := 32) (w := (dg x ++ nmTx xs) ++ enS st) q).1
  rw [List.length_append] at hl ⊢
  obtain ⟨y, ys, ey, hy⟩ := nmTx_hd he (nmS st)
  have len1 : 1 ≤ (nmTx (nmS st) ++ enS st).length := by rw [ey, List.length_cons]; omega
  have t := tk_word (B := B) (L := L) (s := p) (w := st.1 + 1) (by omega) h1.1 h2 (by omega)
  refine ⟨t.1, by omega, t.2.1, ?_⟩
  rw [t.2.2]
  have q := RdT_of (L := L) he (nmS st) _ h1.2 hz (by omega)
  rw [show p + (((litB (st.1 + 1)).length + (nmTx (nmS st) ++ enS st).length : Nat) : Int) = p + (litB (st.1 + 1)).length + (nmTx (nmS st) ++ enS st).length by omega]
  exact q
theorem Rd_all_st : ∀ (ss : List Stm) (p : Int), SubA B p (txL ss) → p + (txL ss).length = L → (∀ s ∈ ss, s.1 < 6 ∧ ∀ z ∈ nmS s, 0 ≤ z ∧ z < 1000) → RdTs B L (tkS B L p) ss
  | [], p, _, hl, _ => by
    have hl : p + ((0 : Nat) : Int) = L := hl
    have : p = L := by omega
    rw [this]
    exact tkS_L
  | st :: ss, p, h, hl, hz => by
    have es : txL (st :: ss) = txS st ++ txL ss := rfl
    rw [es] at h hl
    rw [List.length_append] at hl
    have h1 := SubA.app h
    have hs := hz st List.mem_cons_self
    have t := Rd_stT (B := B) (L := L) (p := p) hs.1 hs.2 h1.1 (by omega)
    have e := tkS_n t.2.1 t.1
    rw [e]
    exact ⟨_, t.2.2, Rd_all_st ss _ h1.2 (by omega) (fun s hs => hz s (List.mem_cons_of_mem _ hs))⟩
end ByTok
