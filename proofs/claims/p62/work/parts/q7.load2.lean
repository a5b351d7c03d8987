/-! A TEXT LOADED: the law's step -/
section Ld2
variable {sc : SC} {S : St} {L : List PC} {t c3 : Nat} {T : Int} {M : Nat} {a4 a5 a6 a7 : Int} {C0 T0 : Nat} {R : (Bool × LZ) ⊕ LZ → Prop} {go : Value × Int × LZ → Option (((Bool × LZ) ⊕ (LZ)) × Nat × Nat)}
theorem FP_ec : fn_FP_errorCode 0 S = some (g S 61 6) := by unfold fn_FP_errorCode; rw [tg_0_0]
theorem FP_ep : fn_FP_errorPosition 0 S = some (g S 61 7) := by unfold fn_FP_errorPosition; rw [tg_0_0]
theorem psi_630 : psi 630 16 = 39 := by decide
theorem phi_630 : phi 630 16 = 2488 := by decide
theorem l_load {c2 : Value} (hsc : (nI sc.2).toInt = (sc.2 : Int)) (hI : Iv T M S L t c3) (hT : 0 ≤ T) (hM : M ≤ 50000000) (h4 : 0 ≤ a4 ∧ a4 < 40) (h7 : 0 ≤ a7 ∧ a7 < 2147483648) (hk : ∀ S' L' t', Iv T (M + 60000) S' L' t' c3 → Ok (jf2_Law_law_415_93 sc c3 go (Value.ref t') a4 a6 a7 S' L') C0 T0 R) :
    Ok (jf2_Law_law_150_93 sc c3 go c2 a4 a5 a6 a7 0 S L) (C0 + 3200) (T0 + 86000) R := by
  obtain ⟨P, W, n, hs, H, ⟨-, hP, -⟩, ⟨hPT, hC, hi⟩, ⟨-, -, ⟨⟨r, m, cp, l1, -⟩, -⟩⟩, hl⟩ := hI
  have lo := l1.old
  have cx := (hp_bd l1.2.1).2.1
  -- a new plan
  have n0 := N1.of (L := L) (c := (12, dfl 12)) (by omega)
  have len0 : (L ++ [(12, dfl 12)]).length = L.length + 1 := n0.2.1
  obtain ⟨L1, q, e1, eq_, len1, sf1, hp1, ⟨li1, li2, li3⟩, hz1, hz2, hz3⟩ := l_init (S := S) n0.at rfl (by omega)
  rw [len0] at eq_ len1
  have tt : ∀ b, b < nCell + L.length → hp L1 b = hp L b := fun b hb => by
    rw [sf1.2 b (by rw [len0]; omega) (fun z => by have z : b = nCell + L.length := z; omega), n0.2.2, if_neg (by omega)]
  have s01 : Sf F0_ L L1 := ⟨by omega, fun b hb _ => tt b hb⟩
  have l1' := l1.sf s01 id (fun _ => id)
  -- the list emptied
  obtain ⟨L2, m2, e2, lc, len2, f2⟩ := k_clear (S := S) l1'
  have rr : ∀ b, nCell + L.length ≤ b → b < XB → b ≠ c3 ∧ b ≠ r := fun b hb hx => ⟨by omega, fun e => by
    have := lo.2 (by omega)
    omega⟩
  have sf2 : Sf (fun b => b = c3 ∨ b = r) L1 L2 := ⟨by omega, fun b _ hF => f2 b (fun z => hF (.inl z)) (fun z => hF (.inr z))⟩
  have kp : ∀ {b : Nat} {c : PC}, hp L1 b = some c → nCell + L.length ≤ b → hp L2 b = some c := fun {b c} hb hge => by
    have bd := hp_bd hb
    obtain ⟨z1, z2⟩ := rr b hge bd.2.1
    rw [f2 b z1 z2]; exact hb
  have kl : ∀ {b : Nat}, LsH L1 b (XB + 300 + 300) 0 0 [] → nCell + L.length ≤ b → LsH L2 b (XB + 300 + 300) 0 0 [] := fun {b} hb hge => by
    have bd := hp_bd hb.2.1
    obtain ⟨z1, z2⟩ := rr b hge bd.2.1
    exact hb.sf sf2 (fun z => z.elim z1 z2) (fun z => absurd z (by omega))
  obtain ⟨tk1, tk2⟩ := take_sf (L := L2) (n := L.length) (by omega)
  have h0 : hp L2 (nCell + L.length) = some (12, [V 1, V 16, V 0, V 0, Value.ref q, Value.ref (q + 1), Value.ref (q + 2), Value.ref (q + 3), Value.ref (q + 4), Value.ref (q + 5)]) := kp hp1 (Nat.le_refl _)
  -- the plan drawn
  have e60 : wr (170 + 60 * a4) = 170 + 60 * a4 := wr_s (by omega) (by omega)
  have pl := l_plan (S := S) (sc := sc) (a2 := 170 + 60 * a4) (t := nCell + L.length) (q := q) (L0 := L2.take L.length) (L := L2) hsc (by omega) tk2 (by omega) (by rw [tk1]; exact Nat.le_refl _) (by rw [tk1]; omega) h0 (kl li1 (by omega)) (kl li2 (by omega)) (kl li3 (by omega)) (kp hz1 (by omega)) (kp hz2 (by omega)) (kp hz3 (by omega))
  have k3 : isK L1 c3 13 = true := l1'.k
  unfold jf2_Law_law_150_93
  rw [if_pos rfl, if_pos (by omega), nw_x]
  refine Ok.ad (c := 1) (s := 10) (by omega) (by omega) ?_
  rw [e1, bnO_s]
  refine Ok.ad (c := 6) (s := 33) (by omega) (by omega) ?_
  dsimp only
  rw [if_pos k3, e2, bnO_s]
  refine Ok.ad (c := 0) (s := 0) (Nat.zero_le _) (Nat.zero_le _) ?_
  dsimp only
  rw [nm_x, e60]
  refine Ok.bind pl (by omega) (by omega) ?_
  rintro v cc ss ⟨K, t1, P1, st, gg, sz, rfl, ⟨⟨hP1, hOk, eT1⟩, ⟨hS1, hl1⟩, ⟨sfK, fpK⟩, -⟩, ⟨hg, hsz⟩, hxS, lenK⟩
  obtain ⟨bs, hbs⟩ : ∃ bs, bs = txH gg sz ++ txL st := ⟨_, rfl⟩
  rw [← hbs] at hS1 hl1
  have lenb : 0 < bs.length := by
    have q13 := litLen.1
    rw [hbs]
    show 0 < (litB 13 ++ dg gg ++ litB 14 ++ dg sz ++ litB 15 ++ txL st).length
    simp only [List.length_append]
    omega
  have hA := hS1.1.2.1
  obtain ⟨p, hp_⟩ : ∃ p : Nat, (p : Int) = a7 % (bs.length : Int) := ⟨(a7 % (bs.length : Int)).toNat, Int.toNat_of_nonneg (Int.emod_nonneg _ (by omega))⟩
  have plt : p < bs.length := by
    have := Int.emod_lt_of_pos a7 (b := (bs.length : Int)) (by omega)
    omega
  have eP : a7.tmod (bs.length : Int) = (p : Int) := by rw [Int.tmod_eq_emod_of_nonneg h7.1, hp_]
  dsimp only
  rw [rfB_r, if_pos hS1.k, k_strLen hS1, bnO_s, if_pos (by omega), nm_x, eP, wr_s (z := (p : Int)) (by omega) (by omega)]
  -- the text into the input, and read
  refine Ok.bind (l_input hS1 (by omega) hi (by omega)) (by omega) (by omega) ?_
  rintro v cc2 ss2 ⟨S2, K2, rfl, tx2, o2, sK2, lK2⟩
  have hnum := num_okL (Good_em hg hsz) rfl hOk
  have hall : RdAll (Bs bs) bs.length gg sz st := RdAll_of (by rw [← hbs]; exact Bs_sub) (by rw [← hbs]) (by omega) (by omega) hnum
  obtain ⟨S3, eL, pt3, hc3, i3, er3, -, -, -⟩ := cl_load tx2 (hPT.off o2 (by omega)) (hC.off o2 (by omega)) hall ⟨hg, hsz⟩ hOk
  have hS2 := hS1.sf0 sK2
  have eSt : gn_Law_statements t1 S3 K2 = some (st.length : Int) := by rw [l_statements hS2, hbs, cn_txt (by omega) (by omega) hnum]
  dsimp only
  rw [eL, bnO_s]
  dsimp only
  rw [eSt, bnO_s, if_pos rfl, FP_ec, bnO_s, er3.1, if_pos rfl, FP_ep, bnO_s, er3.2, if_pos rfl]
  -- a byte more in it
  refine (in_s (S := S3) (L := K2) (N := 630) (M := K2.length + 60) (C := 2 + (2 + (2 + (34 + C0)))) (T := 634 + (634 + (634 + (170 + T0)))) (by decide) (by rw [psi_630]; omega) (by omega) (fun L4 u4 v4 h4b => ?_)).mono (by rw [psi_630]; omega) (by rw [phi_630]; omega) (fun _ q => q)
  have s4 := h4b.sf
  have hS4 := hS2.sf0 s4
  have l4 : L4.length ≤ K2.length + 60 := by have := h4b.1.2.2; omega
  obtain ⟨x5, L5, c5, s5, e5, b5, sf5, len5, hx5⟩ := k_sub2 (S := S3) (a := 0) (n := p) hS4 (by omega) (by omega)
  rw [Nat.zero_add] at e5
  have e5 : gn_String_substring2 t1 0 (p : Int) S3 L4 = some ((Value.ref x5, (S3, L5)), c5, s5) := e5
  dsimp only
  rw [if_pos hS4.k, e5, bnO_s]
  refine Ok.ad (c := c5) (s := s5) (by omega) (by omega) ?_
  dsimp only
  have k15 : isK L5 (nCell + K2.length) 15 = true := by
    obtain ⟨-, r9, c9, y1, -⟩ := h4b
    obtain ⟨-, ⟨v9, y2⟩, -⟩ := y1
    exact isK_s (sf5.at0 y2) (by decide)
  have ts1 : ((bs.drop 0).take p).length = p := slice_len (by omega)
  rw [rfB_r, if_pos k15]
  refine (ap_x (M1 := K2.length + 200) (C := 2 + (2 + (34 + C0))) (T := 634 + (634 + (170 + T0))) h4b hS2 hx5 sf5 (by omega) (by rw [psi_630]; omega) (by omega) (by rw [ts1]; show 0 + p ≤ 630; omega) (fun L6 c6 s6 u6 v6 h6b => ?_)).mono (by rw [psi_630]; omega) (by rw [phi_630]; omega) (fun _ q => q)
  rw [List.nil_append] at h6b
  dsimp only
  rw [rfB_r, if_pos h6b.k]
  have hq := st_lit (L := K2) (j := 23) (Nat.le_of_ble_eq_true rfl)
  have l23 := litLen.2.2.2.2.2.2.2.2.2.2
  refine (ap_s (C := 2 + (2 + (34 + C0))) (T := 634 + (634 + (170 + T0))) h6b hq (by rw [ts1, l23]; omega) (fun L7 c7 s7 u7 v7 h7b => ?_)).mono (Nat.le_refl _) (Nat.le_refl _) (fun _ q => q)
  have hS7 := hS2.sf0 h7b.sf
  have l7 : L7.length ≤ K2.length + 200 := by have := h7b.1.2.2; omega
  obtain ⟨x8, L8, c8, s8, e8, b8, sf8, len8, hx8⟩ := k_sub1 (S := S3) (a := p) (n := bs.length - p) hS7 (by omega) (by omega)
  dsimp only
  rw [if_pos hS7.k, e8, bnO_s]
  refine Ok.ad (c := c8) (s := s8) (by omega) (by omega) ?_
  have k15' : isK L8 (nCell + K2.length) 15 = true := by
    obtain ⟨-, r9, c9, y1, -⟩ := h7b
    obtain ⟨-, ⟨v9, y2⟩, -⟩ := y1
    exact isK_s (sf8.at0 y2) (by decide)
  have ts2 : ((bs.drop p).take (bs.length - p)).length = bs.length - p := slice_len (by omega)
  dsimp only
  rw [rfB_r, rfB_r, if_pos k15']
  have c7b := h7b.1.2.2
  refine (ap_x (M1 := K2.length + 300) (C := 2 + (34 + C0)) (T := 634 + (170 + T0)) h7b hS2 hx8 sf8 (by omega) (by omega) (by omega) (by rw [List.length_append, ts1, ts2, l23]; omega) (fun L9 c9 s9 u9 v9 h9b => ?_)).mono (by omega) (by omega) (fun _ q => q)
  obtain ⟨bs2, hb2⟩ : ∃ bs2, bs2 = ((bs.drop 0).take p ++ litB 23) ++ (bs.drop p).take (bs.length - p) := ⟨_, rfl⟩
  rw [← hb2] at h9b
  have lb2 : bs2.length = bs.length + 1 := by
    rw [hb2, List.length_append, List.length_append, ts1, ts2, l23]
    omega
  have gb2 : bs2.getD p 0 = 63 := by
    rw [hb2, getD_ap, if_pos (by rw [List.length_append, ts1, l23]; omega), getD_ap, if_neg (by rw [ts1]; omega), ts1, Nat.sub_self]
    decide
  dsimp only
  rw [rfB_r, if_pos h9b.k]
  refine (st_s (C := 34 + C0) (T := 170 + T0) h9b (by omega) (fun t2 LA u v hS9 bt2 sfA lenA => ?_)).mono (by omega) (by omega) (fun _ q => q)
  dsimp only
  rw [rfB_r]
  -- read again
  refine Ok.bind (l_input hS9 (by omega) (by rw [i3]; exact Int.le_refl _) (by omega)) (by omega) (by omega) ?_
  rintro v cc3 ss3 ⟨S4, LB, rfl, tx4, o4, sB, lB⟩
  obtain ⟨S5, eX, pt5, hc5, i5, er5, -, -⟩ := cl_loadX (q := (p : Int)) tx4 (pt3.off o4 (by omega)) (hc3.off o4 (by omega)) (by omega) (by
    unfold Bs
    rw [if_pos (by omega), Int.toNat_natCast]
    exact gb2)
  dsimp only
  rw [eX, bnO_s]
  dsimp only
  rw [if_pos rfl, FP_ep, bnO_s, if_neg (by omega), FP_ec, bnO_s, if_pos er5.1.1]
  have sAll : Sf F0_ K LB := ((sK2.trans sfA).trans sB)
  have hPB := hP1.sf0 sAll
  have back : ∀ b, b < nCell + L.length → hp (L2.take L.length) b = hp L2 b := fun b hb => (tk2.2 b (by rw [tk1]; exact hb) id).symm
  have lcT : LsH (L2.take L.length) c3 r m2 cp [] := by
    obtain ⟨y1, y2, y3⟩ := lc
    refine ⟨y1, by rw [back c3 lo.1]; exact y2, ?_⟩
    rcases y3 with y | ⟨vs, z1, z2⟩
    · exact .inl y
    · exact .inr ⟨vs, by rw [back r (lo.2 (hp_bd z1).2.1)]; exact z1, z2⟩
  have lcB : LsH LB c3 r m2 cp [] := (lcT.sf sfK id (fun _ => id)).sf sAll id (fun _ => id)
  have eNS : nS (apL (emV gg sz) st) ≤ 3 := by have := hP1.2.1.2.1; omega
  have fb := fpK
  rw [tk1] at fb
  refine (hk S5 LB (nCell + L.length) ⟨P1, apL (emV gg sz) st, 0, hs, [], ⟨eT1, hPB, QV_l hT hg hsz hOk eNS⟩, ⟨pt5, hc5, by rw [i5]; exact Int.le_refl _⟩, ⟨⟨rfl, fun j e he => by cases he⟩, fun e he => absurd he List.not_mem_nil, ⟨⟨r, m2, cp, lcB, fun b hb hx q => ?_, fun e he => absurd he List.not_mem_nil⟩, fun e he => absurd he List.not_mem_nil, List.Pairwise.nil⟩⟩, by omega⟩).mono (by omega) (by omega) (fun _ q => q)
  have q1 := fb b q
  rcases hb with e | e
  · omega
  · rw [e] at q1 hx
    have := lo.2 hx
    omega
end Ld2
