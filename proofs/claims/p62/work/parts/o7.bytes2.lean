/-! A PLAN'S TEXT: what stands in it, how many statements -/
section ByPlan
variable {B : Int → Int} {L p e z a b : Int} {U V : Vw} {bs u w : List Int}
theorem num_ok {s : Stm} (hG : Good U) (h : OkS U s) : s.1 < 6 ∧ ∀ z ∈ nmS s, 0 ≤ z ∧ z < 1000 := by
  have bz := hG.1.z
  have bp := hG.1.pg
  have fb := frm_b hG.1
  obtain ⟨k, x0, x1, x2, x3, x4, x5⟩ := s
  match k, h with
  | 0, h =>
    have h : 0 ≤ x0 ∧ x0 < frm U := h
    refine ⟨show 0 < 6 from by decide, fun z hz => ?_⟩
    have hz : z ∈ [x0] := hz
    simp only [List.mem_cons, List.not_mem_nil, or_false] at hz
    omega
  | 1, h =>
    obtain ⟨h0, h1, h2, h3, h4, h5, h6⟩ := h
    dsimp only at h0 h1 h2 h3 h4 h5 h6
    refine ⟨show 1 < 6 from by decide, fun z hz => ?_⟩
    have hz : z ∈ [x0, x1, x2, x3, x4, x5] := hz
    simp only [List.mem_cons, List.not_mem_nil, or_false] at hz
    omega
  | 2, h =>
    obtain ⟨h0, h1, h3, h4, h6⟩ := h
    dsimp only at h0 h1 h3 h4 h6
    refine ⟨show 2 < 6 from by decide, fun z hz => ?_⟩
    have hz : z ∈ [x0, x1, x2, x3] := hz
    simp only [List.mem_cons, List.not_mem_nil, or_false] at hz
    omega
  | 3, h =>
    have h1 : x0 = 1 ∨ x0 = 2 ∨ x0 = 4 := h.2
    refine ⟨show 3 < 6 from by decide, fun z hz => ?_⟩
    have hz : z ∈ [x0] := hz
    simp only [List.mem_cons, List.not_mem_nil, or_false] at hz
    omega
  | 4, h =>
    obtain ⟨h1, h2⟩ := h
    dsimp only at h1 h2
    refine ⟨show 4 < 6 from by decide, fun z hz => ?_⟩
    have hz : z ∈ [x0, x1] := hz
    simp only [List.mem_cons, List.not_mem_nil, or_false] at hz
    omega
  | 5, h =>
    obtain ⟨h1, h2, -⟩ := h
    dsimp only at h1 h2
    refine ⟨show 5 < 6 from by decide, fun z hz => ?_⟩
    have hz : z ∈ [x0, x1] := hz
    simp only [List.mem_cons, List.not_mem_nil, or_false] at hz
    omega
  | n + 6, h => exact h.elim
theorem num_okL : ∀ {ss : List Stm} {U : Vw}, Good U → tm U = 0 → OkL U ss → ∀ s ∈ ss, s.1 < 6 ∧ ∀ z ∈ nmS s, 0 ≤ z ∧ z < 1000
  | [], _, _, _, _ => fun s hs => absurd hs List.not_mem_nil
  | t :: ss, U, hG, ht, h => fun s hs => by
    rcases List.mem_cons.mp hs with e | e
    · rw [e]; exact num_ok hG h.1
    · obtain ⟨g1, t1⟩ := GoodS hG ht h.1
      exact num_okL g1 t1 h.2 s e
theorem txH_eq : txH a b = litB 0 ++ (nmTx [a, b] ++ [59]) := by
  obtain ⟨v0, -, -, -, -, -, -, v7, v8, -, -⟩ := lit_v
  show litB 13 ++ dg a ++ litB 14 ++ dg b ++ litB 15 = litB 0 ++ ((32 :: (dg a ++ (32 :: (dg b ++ [])))) ++ [59])
  rw [v0, v7, v8]
  simp only [List.append_assoc, List.cons_append, List.nil_append, List.append_nil]
/-- the text is read as what it was made of -/
theorem RdAll_of {ss : List Stm} (h : SubA B 0 (txH a b ++ txL ss)) (hl : ((txH a b ++ txL ss).length : Int) = L) (ha : 0 ≤ a ∧ a < 1000) (hb : 0 ≤ b ∧ b < 1000) (hz : ∀ s ∈ ss, s.1 < 6 ∧ ∀ z ∈ nmS s, 0 ≤ z ∧ z < 1000) : RdAll B L a b ss := by
  rw [List.length_append] at hl
  have h1 := SubA.app h
  rw [Int.zero_add] at h1
  have hH := h1.1
  rw [txH_eq] at hH
  have h2 := SubA.app hH
  rw [Int.zero_add] at h2
  have el : (txH a b).length = (litB 0).length + (nmTx [a, b] ++ [59]).length := by rw [txH_eq, List.length_append]
  obtain ⟨l1, l2, l3⟩ := litW_len 0 (by decide)
  have h3 : B (0 + (litB 0).length) = 32 := by
    rw [Int.zero_add]
    exact (SubA.hd (x := 32) (w := (dg a ++ nmTx [b]) ++ [59]) h2.2).1
  have len1 : 1 ≤ (nmTx [a, b] ++ [59]).length := by rw [List.length_append]; exact Nat.le_add_left _ _
  have t := tk_word (B := B) (L := L) (s := 0) (w := 0) (by decide) h2.1 h3 (by omega)
  have e0 := tkS_n (B := B) (L := L) (p := 0) (by omega) t.1
  refine ⟨((txH a b).length : Int), ⟨by rw [e0]; exact t.2.1, ?_⟩, Rd_all_st ss _ h1.2 (by omega) hz⟩
  rw [e0, t.2.2, Int.zero_add]
  have q := RdT_of (L := L) (en := [59]) (.inl rfl) [a, b] _ h2.2 (fun z hz => by
    simp only [List.mem_cons, List.not_mem_nil, or_false] at hz
    rcases hz with e | e
    · rw [e]; exact ha
    · rw [e]; exact hb) (by omega)
  rw [show ((txH a b).length : Int) = (litB 0).length + (nmTx [a, b] ++ [59]).length by omega]
  exact q
/-! how often 59 stands there -/
def cn : List Int → Int
  | [] => 0
  | x :: xs => (if x = 59 then 1 else 0) + cn xs
theorem cn_app : ∀ {u w : List Int}, cn (u ++ w) = cn u + cn w
  | [], w => (Int.zero_add _).symm
  | x :: u, w => by
    show (if x = 59 then 1 else 0) + cn (u ++ w) = (if x = 59 then 1 else 0) + cn u + cn w
    rw [cn_app (u := u), Int.add_assoc]
theorem cn_sum : ∀ (w u : List Int), sumR (c59 (u ++ w)) u.length w.length = cn w
  | [], u => rfl
  | x :: w, u => by
    have ih := cn_sum w (u ++ [x])
    rw [List.append_assoc] at ih
    have e : ((u ++ [x]).length : Int) = (u.length : Int) + 1 := by rw [List.length_append]; rfl
    rw [e] at ih
    show c59 (u ++ x :: w) u.length + sumR (c59 (u ++ x :: w)) ((u.length : Int) + 1) w.length = (if x = 59 then 1 else 0) + cn w
    have q : sumR (c59 (u ++ x :: w)) ((u.length : Int) + 1) w.length = cn w := ih
    rw [q]
    have e2 : (u ++ x :: w).getD ((u.length : Int)).toNat 0 = x := by
      rw [getD_ap, Int.toNat_natCast, if_neg (Nat.lt_irrefl _), Nat.sub_self]
      rfl
    unfold c59
    rw [e2]
theorem cn_all : sumR (c59 bs) 0 bs.length = cn bs := cn_sum bs []
theorem cn_no : ∀ {u : List Int}, (∀ i : Nat, i < u.length → u.getD i 0 ≠ 59) → cn u = 0
  | [], _ => rfl
  | x :: u, h => by
    have h0 : x ≠ 59 := h 0 (Nat.zero_lt_succ _)
    show (if x = 59 then 1 else 0) + cn u = 0
    rw [if_neg h0, cn_no (u := u) (fun i hi => h (i + 1) (Nat.succ_lt_succ hi))]
    rfl
theorem cn_nmTx : ∀ {zs : List Int}, (∀ z ∈ zs, 0 ≤ z ∧ z < 1000) → cn (nmTx zs) = 0
  | [], _ => rfl
  | z :: zs, h => by
    have d := dg_dig (h z List.mem_cons_self)
    show (if (32 : Int) = 59 then 1 else 0) + cn (dg z ++ nmTx zs) = 0
    rw [if_neg (by decide), cn_app, cn_no (fun i hi => by have := d i hi; omega), cn_nmTx (fun x hx => h x (List.mem_cons_of_mem _ hx))]
    rfl
theorem cn_lit : ∀ w : Nat, w < 8 → cn (litB w) = 0 := by decide +kernel
theorem cn_st {s : Stm} (hk : s.1 < 6) (hz : ∀ z ∈ nmS s, 0 ≤ z ∧ z < 1000) : cn (txS s) = 1 := by
  rw [txS_eq hk, cn_app, cn_app, cn_lit (s.1 + 1) (by omega), cn_nmTx hz]
  unfold enS
  split <;> rfl
theorem cn_txL : ∀ {ss : List Stm}, (∀ s ∈ ss, s.1 < 6 ∧ ∀ z ∈ nmS s, 0 ≤ z ∧ z < 1000) → cn (txL ss) = ss.length
  | [], _ => rfl
  | s :: ss, h => by
    have hs := h s List.mem_cons_self
    show cn (txS s ++ txL ss) = _
    rw [cn_app, cn_st hs.1 hs.2, cn_txL (fun x hx => h x (List.mem_cons_of_mem _ hx)), List.length_cons]
    omega
theorem cn_txt {ss : List Stm} (ha : 0 ≤ a ∧ a < 1000) (hb : 0 ≤ b ∧ b < 1000) (hz : ∀ s ∈ ss, s.1 < 6 ∧ ∀ z ∈ nmS s, 0 ≤ z ∧ z < 1000) : sumR (c59 (txH a b ++ txL ss)) 0 (txH a b ++ txL ss).length - 1 = ss.length := by
  rw [cn_all, cn_app, cn_txL hz, txH_eq, cn_app, cn_app, cn_lit 0 (by decide), cn_nmTx (fun z hz => by
    simp only [List.mem_cons, List.not_mem_nil, or_false] at hz
    rcases hz with e | e
    · rw [e]; exact ha
    · rw [e]; exact hb)]
  show (0 : Int) + (0 + 1) + ss.length - 1 = ss.length
  omega
end ByPlan
