/-! THE LAW'S OWN METHOD, behind new FlatPlan() -/
abbrev M_Law_law : MethodName × ByteArray × Nat × Option FieldType × List (Nat × Nat × Nat × Nat) × Nat × Nat := (⟨"FlatPlanLaw", "law", "([I)Z"⟩, code, 11, (some (FieldType.boolean)), [], 78, 1937)
def C_Law_law_0 : List (Nat × Instr × Nat) := [(0, .new 9, 3), (3, .dup, 1), (4, .invokespecial 457, 3), (7, .astore_n 1, 1), (8, .new 43, 3), (11, .dup, 1), (12, .invokespecial 458, 3), (15, .astore_n 2, 1), (16, .new 56, 3), (19, .dup, 1), (20, .invokespecial 324, 3), (23, .astore_n 3, 1), (24, .aload_n 1, 1), (25, .aload_n 2, 1), (26, .iconst (0), 1), (27, .invokestatic 459, 3), (30, .ifCond .eq (58), 3), (33, .aload_n 1, 1), (34, .aload_n 2, 1), (35, .invokestatic 462, 3), (38, .ifCond .eq (50), 3), (41, .aload_n 1, 1), (42, .invokevirtual 464, 3), (45, .ifCond .ne (43), 3), (48, .aload_n 1, 1), (49, .invokevirtual 467, 3), (52, .iconst (-1), 1), (53, .if_icmp .ne (35), 3), (56, .aload_n 1, 1), (57, .invokevirtual 470, 3), (60, .ifCond .ne (28), 3), (63, .aload_n 1, 1), (64, .bipush (99), 2), (66, .invokevirtual 202, 3), (69, .iconst (-1), 1), (70, .if_icmp .ne (18), 3), (73, .aload_n 1, 1), (74, .invokevirtual 275, 3), (77, .iconst (-1), 1), (78, .if_icmp .ne (10), 3), (81, .aload_n 1, 1), (82, .invokevirtual 282, 3), (85, .ifCond .eq (5), 3), (88, .iconst (0), 1), (89, .ireturn, 1), (90, .iconst (0), 1), (91, .istore 4, 2), (93, .iload 4, 2), (95, .bipush (40), 2), (97, .if_icmp .ge (401), 3)]
theorem D_Law_law_0 : ∀ q ∈ C_Law_law_0, decode code q.1 = .ok (q.2.1, q.2.2) := by decide +kernel
def C_Law_law_1 : List (Nat × Instr × Nat) := [(100, .aload_n 0, 1), (101, .iconst (1), 1), (102, .iconst (4), 1), (103, .iload 4, 2), (105, .imul, 1), (106, .iadd, 1), (107, .invokestatic 362, 3), (110, .istore 5, 2), (112, .aload_n 0, 1), (113, .iconst (2), 1), (114, .iconst (4), 1), (115, .iload 4, 2), (117, .imul, 1), (118, .iadd, 1), (119, .invokestatic 362, 3), (122, .istore 6, 2), (124, .aload_n 0, 1), (125, .iconst (3), 1), (126, .iconst (4), 1), (127, .iload 4, 2), (129, .imul, 1), (130, .iadd, 1), (131, .invokestatic 362, 3), (134, .istore 7, 2), (136, .iload 4, 2), (138, .ifCond .ne (7), 3), (141, .iconst (0), 1), (142, .goto (8), 3), (145, .iload 5, 2), (147, .bipush (40), 2), (149, .irem, 1), (150, .istore 8, 2), (152, .iload 8, 2), (154, .ifCond .ne (148), 3), (157, .new 43, 3), (160, .dup, 1), (161, .invokespecial 458, 3), (164, .astore_n 2, 1), (165, .aload_n 3, 1), (166, .invokevirtual 473, 3), (169, .aload_n 2, 1), (170, .aload_n 0, 1), (171, .sipush (170), 3), (174, .bipush (60), 2), (176, .iload 4, 2), (178, .imul, 1), (179, .iadd, 1), (180, .invokestatic 475, 3), (183, .astore 9, 2), (185, .iload 7, 2)]
theorem D_Law_law_1 : ∀ q ∈ C_Law_law_1, decode code q.1 = .ok (q.2.1, q.2.2) := by decide +kernel
def C_Law_law_2 : List (Nat × Instr × Nat) := [(187, .aload 9, 2), (189, .invokevirtual 14, 3), (192, .irem, 1), (193, .istore 10, 2), (195, .aload_n 1, 1), (196, .aload 9, 2), (198, .invokestatic 479, 3), (201, .aload_n 1, 1), (202, .invokevirtual 483, 3), (205, .aload 9, 2), (207, .invokestatic 486, 3), (210, .if_icmp .ne (18), 3), (213, .aload_n 1, 1), (214, .invokevirtual 464, 3), (217, .ifCond .ne (11), 3), (220, .aload_n 1, 1), (221, .invokevirtual 467, 3), (224, .iconst (-1), 1), (225, .if_icmp .eq (5), 3), (228, .iconst (0), 1), (229, .ireturn, 1), (230, .aload_n 1, 1), (231, .new 163, 3), (234, .dup, 1), (235, .invokespecial 165, 3), (238, .aload 9, 2), (240, .iconst (0), 1), (241, .iload 10, 2), (243, .invokevirtual 490, 3), (246, .invokevirtual 168, 3), (249, .ldc_w 494, 3), (252, .invokevirtual 168, 3), (255, .aload 9, 2), (257, .iload 10, 2), (259, .invokevirtual 496, 3), (262, .invokevirtual 168, 3), (265, .invokevirtual 175, 3), (268, .invokestatic 479, 3), (271, .aload_n 1, 1), (272, .invokevirtual 483, 3), (275, .bipush (-3), 2), (277, .if_icmp .ne (20), 3), (280, .aload_n 1, 1), (281, .invokevirtual 467, 3), (284, .iload 10, 2), (286, .if_icmp .gt (11), 3), (289, .aload_n 1, 1), (290, .invokevirtual 464, 3), (293, .iconst (1), 1), (294, .if_icmp .ge (5), 3)]
theorem D_Law_law_2 : ∀ q ∈ C_Law_law_2, decode code q.1 = .ok (q.2.1, q.2.2) := by decide +kernel
def C_Law_law_3 : List (Nat × Instr × Nat) := [(297, .iconst (0), 1), (298, .ireturn, 1), (299, .goto (116), 3), (302, .iload 8, 2), (304, .bipush (34), 2), (306, .if_icmp .ge (65), 3), (309, .aload_n 2, 1), (310, .invokevirtual 243, 3), (313, .astore 9, 2), (315, .aload_n 1, 1), (316, .aload_n 2, 1), (317, .iload 5, 2), (319, .bipush (40), 2), (321, .idiv, 1), (322, .bipush (21), 2), (324, .irem, 1), (325, .iload 6, 2), (327, .iload 7, 2), (329, .invokestatic 499, 3), (332, .istore 10, 2), (334, .iload 10, 2), (336, .ifCond .ge (5), 3), (339, .iconst (0), 1), (340, .ireturn, 1), (341, .iload 10, 2), (343, .ifCond .le (10), 3), (346, .aload_n 3, 1), (347, .aload 9, 2), (349, .invokevirtual 378, 3), (352, .pop, 1), (353, .aload_n 3, 1), (354, .invokevirtual 55, 3), (357, .bipush (20), 2), (359, .if_icmp .le (9), 3), (362, .aload_n 3, 1), (363, .iconst (0), 1), (364, .invokevirtual 503, 3), (367, .pop, 1), (368, .goto (47), 3), (371, .aload_n 3, 1), (372, .invokevirtual 285, 3), (375, .ifCond .ne (7), 3), (378, .iconst (1), 1), (379, .goto (4), 3), (382, .iconst (0), 1), (383, .istore 9, 2), (385, .iload 9, 2), (387, .ifCond .eq (17), 3), (390, .aload_n 3, 1), (391, .aload_n 3, 1)]
theorem D_Law_law_3 : ∀ q ∈ C_Law_law_3, decode code q.1 = .ok (q.2.1, q.2.2) := by decide +kernel
def C_Law_law_4 : List (Nat × Instr × Nat) := [(392, .invokevirtual 55, 3), (395, .iconst (1), 1), (396, .isub, 1), (397, .invokevirtual 503, 3), (400, .checkcast 43, 3), (403, .astore_n 2, 1), (404, .aload_n 1, 1), (405, .invokevirtual 470, 3), (408, .iload 9, 2), (410, .if_icmp .eq (5), 3), (413, .iconst (0), 1), (414, .ireturn, 1), (415, .aload_n 1, 1), (416, .aload_n 2, 1), (417, .aload_n 3, 1), (418, .invokevirtual 55, 3), (421, .invokestatic 459, 3), (424, .ifCond .ne (5), 3), (427, .iconst (0), 1), (428, .ireturn, 1), (429, .iload 4, 2), (431, .bipush (7), 2), (433, .irem, 1), (434, .bipush (6), 2), (436, .if_icmp .eq (6), 3), (439, .goto (53), 3), (442, .aload_n 1, 1), (443, .aload_n 2, 1), (444, .invokestatic 462, 3), (447, .ifCond .eq (43), 3), (450, .aload_n 1, 1), (451, .aload_n 2, 1), (452, .invokestatic 506, 3), (455, .ifCond .eq (35), 3), (458, .aload_n 1, 1), (459, .aload_n 2, 1), (460, .iload 6, 2), (462, .invokestatic 509, 3), (465, .ifCond .eq (25), 3), (468, .aload_n 1, 1), (469, .aload_n 2, 1), (470, .iload 7, 2), (472, .invokestatic 511, 3), (475, .ifCond .eq (15), 3), (478, .aload_n 1, 1), (479, .aload_n 2, 1), (480, .aload_n 3, 1), (481, .invokevirtual 55, 3), (484, .invokestatic 459, 3), (487, .ifCond .ne (5), 3)]
theorem D_Law_law_4 : ∀ q ∈ C_Law_law_4, decode code q.1 = .ok (q.2.1, q.2.2) := by decide +kernel
def C_Law_law_5 : List (Nat × Instr × Nat) := [(490, .iconst (0), 1), (491, .ireturn, 1), (492, .iinc 4 (1), 3), (495, .goto (-402), 3), (498, .iconst (1), 1), (499, .ireturn, 1)]
theorem D_Law_law_5 : ∀ q ∈ C_Law_law_5, decode code q.1 = .ok (q.2.1, q.2.2) := by decide +kernel
def jf2_Law_law_415_93 (sc : SC) (c3 : Nat) (go : Value × Int × LZ → Option (((Bool × LZ) ⊕ (LZ)) × Nat × Nat)) (c2 : Value) (a4 : Int) (a6 : Int) (a7 : Int) (S : St) (L : List PC) : Option (((Bool × LZ) ⊕ (LZ)) × Nat × Nat) := if isK L c3 13 = true then (bnO (gn_AL_size c3 S L) fun p33 => rfB c2 fun r35 => bnO (gn_Law_same r35 p33 S L) fun p36 => adC p36.2.1 p36.2.2 (if p36.1.1 = true then (nm (wr (a4.tmod 7)) fun v38 => if v38 = 6 then (bnO (gn_Law_pages r35 p36.1.2.1 p36.1.2.2) fun p39 => adC p39.2.1 p39.2.2 (if p39.1.1 = true then (bnO (gn_Law_forms r35 p39.1.2.1 p39.1.2.2) fun p41 => adC p41.2.1 p41.2.2 (if p41.1.1 = true then (bnO (gn_Law_choices r35 a6 p41.1.2.1 p41.1.2.2) fun p43 => adC p43.2.1 p43.2.2 (if p43.1.1 = true then (bnO (gn_Law_groups r35 a7 p43.1.2.1 p43.1.2.2) fun p45 => adC p45.2.1 p45.2.2 (if p45.1.1 = true then (if isK p45.1.2.2 c3 13 = true then (bnO (gn_AL_size c3 p45.1.2.1 p45.1.2.2) fun p47 => bnO (gn_Law_same r35 p47 p45.1.2.1 p45.1.2.2) fun p49 => adC p49.2.1 p49.2.2 (if p49.1.1 = true then (nm (wr (a4 + 1)) fun v51 => go (.ref r35, v51, (p49.1.2.1, p49.1.2.2))) else (some (.inl (false, (p49.1.2.1, p49.1.2.2)), 0, 0)))) else none) else (some (.inl (false, (p45.1.2.1, p45.1.2.2)), 0, 0)))) else (some (.inl (false, (p43.1.2.1, p43.1.2.2)), 0, 0)))) else (some (.inl (false, (p41.1.2.1, p41.1.2.2)), 0, 0)))) else (some (.inl (false, (p39.1.2.1, p39.1.2.2)), 0, 0)))) else (nm (wr (a4 + 1)) fun v52 => go (.ref r35, v52, (p36.1.2.1, p36.1.2.2)))) else (some (.inl (false, (p36.1.2.1, p36.1.2.2)), 0, 0)))) else none
theorem tj2_Law_law_415_93 {sc : SC} {c3 : Nat} {K : Option Value → List PC → Prop} {mc ms kt nt : Nat} (hkt : kt ≤ mc) (hnt : nt ≤ ms) {go : Value × Int × LZ → Option (((Bool × LZ) ⊕ (LZ)) × Nat × Nat)} (ih : ∀ (a : Value × Int × LZ) (q : ((Bool × LZ) ⊕ (LZ)) × Nat × Nat), go a = some q → ∀ k n, Bd k n kt nt q → (a.1 = .null ∨ ∃ b, a.1 = .ref b) → inR a.2.1 → (∀ e, q.1 = .inr e → GX sc M_Law_law mc ms 498 [] [] (wz e) kt nt K) → (∀ r, q.1 = .inl r → K (some (V (bi r.1))) (wz r.2)) → GX sc M_Law_law mc ms 93 [(0, .ref (XB + 200)), (1, .ref 0), (2, a.1), (3, .ref c3), (4, V a.2.1)] [] (wz a.2.2) k n K) {c2 : Value} (hc2 : c2 = .null ∨ ∃ b, c2 = .ref b) {a4 : Int} (ha4 : inR a4) {a6 : Int} (ha6 : inR a6) {a7 : Int} (ha7 : inR a7) {S : St} {L : List PC} {q : ((Bool × LZ) ⊕ (LZ)) × Nat × Nat} (h : jf2_Law_law_415_93 sc c3 go c2 a4 a6 a7 S L = some q) {k n : Nat} (hb : Bd k n kt nt q) (hx : (∀ e, q.1 = .inr e → GX sc M_Law_law mc ms 498 [] [] (wz e) kt nt K)) (hr : (∀ r, q.1 = .inl r → K (some (V (bi r.1))) (wz r.2))) : GX sc M_Law_law mc ms 415 [(0, .ref (XB + 200)), (1, .ref 0), (2, c2), (3, .ref c3), (4, V a4), (6, V a6), (7, V a7)] [] (wz (S, L)) k n K := by
  unfold jf2_Law_law_415_93 at h
  refine x_aloadn (pc := 415) (i0 := 1) (j := 1) (dK D_Law_law_4 12 rfl) rfl rfl ?_
  refine x_aloadnV (pc := 416) (i0 := 2) (j := 2) hc2 (dK D_Law_law_4 13 rfl) rfl rfl ?_
  refine x_aloadn (pc := 417) (i0 := 3) (j := 3) (dK D_Law_law_4 14 rfl) rfl rfl ?_
  refine gdE h ?_
  clear h
  intro hk34 h
  refine bnE h ?_
  clear h
  intro p33 e_p33 h
  refine x_callX (pc := 418) (As := []) (rest := [c2, .ref 0]) (mc' := 0) (ms' := 0) (dK D_Law_law_4 15 rfl) Q_Law_55 sx_AL_size (fitK rfl) (isK_at (Z := (S, L)) (ci := 13) hk34) rfl (by simp only [List.map_cons, List.map_nil, cato hc2]; exact leK rfl) (Nat.le_trans (bdk hb) hkt) (Nat.le_trans (bdn hb) hnt) (tg_AL_size  e_p33) (kxI' (fun h_p33 => ?_))
  refine rfE h ?_
  clear h
  intro r35 e_r35 h
  rw [e_r35]
  refine bnE h ?_
  clear h
  intro p36 e_p36 h
  obtain ⟨yp36, h9, e9⟩ := adE2 h
  clear h
  subst e9
  have h := h9
  clear h9
  have hk1 := Nat.le_trans (bd1 hb) hkt
  have hn1 := Nat.le_trans (bd2 hb) hnt
  replace hb := bdA hb
  refine x_callS (pc := 421) (As := [.ref 0, .ref r35, V p33]) (rest := []) (mc' := p36.2.1) (ms' := p36.2.2) (dK D_Law_law_4 16 rfl) Q_Law_459 (fitK rfl) rfl (leK rfl) hk1 hn1 (tg_Law_same h_p33 e_p36) (kxB' ?_)
  refine wx_ifB_ne (pc := 424) (b := p36.1.1) (t := 429) (dK D_Law_law_4 17 rfl) rfl (fun hc37 => ?_) (fun hc37 => ?_)
  · replace h := ifP h hc37
    refine x_iload (pc := 429) (j := 4) (dK D_Law_law_4 20 rfl) rfl ?_
    refine wx_bipush (pc := 431) (dK D_Law_law_4 21 rfl) rfl ?_
    refine wx_irem (pc := 433) (dK D_Law_law_4 22 rfl) ha4 (inRk rfl) (by decide) ?_
    refine wx_bipush (pc := 434) (dK D_Law_law_4 23 rfl) rfl ?_
    refine nmE h ?_
    clear h
    intro v38 e_v38 h
    refine wsk (st' := [V 6, V v38]) (congrArg (fun z9 => [V 6, z9]) (Vn e_v38)) ?_
    refine wx_icmp_eq (pc := 436) (t := 442) (dK D_Law_law_4 24 rfl) rfl (Vn_in e_v38) (inRk rfl) (fun hc53 => ?_) (fun hc53 => ?_)
    · replace h := ifP h hc53
      refine x_aloadn (pc := 442) (i0 := 1) (j := 1) (dK D_Law_law_4 26 rfl) rfl rfl ?_
      refine x_aloadn (pc := 443) (i0 := 2) (j := 2) (dK D_Law_law_4 27 rfl) rfl rfl ?_
      refine bnE h ?_
      clear h
      intro p39 e_p39 h
      obtain ⟨yp39, h9, e9⟩ := adE2 h
      clear h
      subst e9
      have h := h9
      clear h9
      have hk1 := Nat.le_trans (bd1 hb) hkt
      have hn1 := Nat.le_trans (bd2 hb) hnt
      replace hb := bdA hb
      refine x_callS (pc := 444) (As := [.ref 0, .ref r35]) (rest := []) (mc' := p39.2.1) (ms' := p39.2.2) (dK D_Law_law_4 28 rfl) Q_Law_462 (fitK rfl) rfl (leK rfl) hk1 hn1 (tg_Law_pages  e_p39) (kxB' ?_)
      refine wx_ifB_eq (pc := 447) (b := p39.1.1) (t := 490) (dK D_Law_law_4 29 rfl) rfl (fun hc40 => ?_) (fun hc40 => ?_)
      · replace h := ifP h hc40
        refine x_aloadn (pc := 450) (i0 := 1) (j := 1) (dK D_Law_law_4 30 rfl) rfl rfl ?_
        refine x_aloadn (pc := 451) (i0 := 2) (j := 2) (dK D_Law_law_4 31 rfl) rfl rfl ?_
        refine bnE h ?_
        clear h
        intro p41 e_p41 h
        obtain ⟨yp41, h9, e9⟩ := adE2 h
        clear h
        subst e9
        have h := h9
        clear h9
        have hk1 := Nat.le_trans (bd1 hb) hkt
        have hn1 := Nat.le_trans (bd2 hb) hnt
        replace hb := bdA hb
        refine x_callS (pc := 452) (As := [.ref 0, .ref r35]) (rest := []) (mc' := p41.2.1) (ms' := p41.2.2) (dK D_Law_law_4 32 rfl) Q_Law_506 (fitK rfl) rfl (leK rfl) hk1 hn1 (tg_Law_forms  e_p41) (kxB' ?_)
        refine wx_ifB_eq (pc := 455) (b := p41.1.1) (t := 490) (dK D_Law_law_4 33 rfl) rfl (fun hc42 => ?_) (fun hc42 => ?_)
        · replace h := ifP h hc42
          refine x_aloadn (pc := 458) (i0 := 1) (j := 1) (dK D_Law_law_4 34 rfl) rfl rfl ?_
          refine x_aloadn (pc := 459) (i0 := 2) (j := 2) (dK D_Law_law_4 35 rfl) rfl rfl ?_
          refine x_iload (pc := 460) (j := 5) (dK D_Law_law_4 36 rfl) rfl ?_
          refine bnE h ?_
          clear h
          intro p43 e_p43 h
          obtain ⟨yp43, h9, e9⟩ := adE2 h
          clear h
          subst e9
          have h := h9
          clear h9
          have hk1 := Nat.le_trans (bd1 hb) hkt
          have hn1 := Nat.le_trans (bd2 hb) hnt
          replace hb := bdA hb
          refine x_callS (pc := 462) (As := [.ref 0, .ref r35, V a6]) (rest := []) (mc' := p43.2.1) (ms' := p43.2.2) (dK D_Law_law_4 37 rfl) Q_Law_509 (fitK rfl) rfl (leK rfl) hk1 hn1 (tg_Law_choices ha6 e_p43) (kxB' ?_)
          refine wx_ifB_eq (pc := 465) (b := p43.1.1) (t := 490) (dK D_Law_law_4 38 rfl) rfl (fun hc44 => ?_) (fun hc44 => ?_)
          · replace h := ifP h hc44
            refine x_aloadn (pc := 468) (i0 := 1) (j := 1) (dK D_Law_law_4 39 rfl) rfl rfl ?_
            refine x_aloadn (pc := 469) (i0 := 2) (j := 2) (dK D_Law_law_4 40 rfl) rfl rfl ?_
            refine x_iload (pc := 470) (j := 6) (dK D_Law_law_4 41 rfl) rfl ?_
            refine bnE h ?_
            clear h
            intro p45 e_p45 h
            obtain ⟨yp45, h9, e9⟩ := adE2 h
            clear h
            subst e9
            have h := h9
            clear h9
            have hk1 := Nat.le_trans (bd1 hb) hkt
            have hn1 := Nat.le_trans (bd2 hb) hnt
            replace hb := bdA hb
            refine x_callS (pc := 472) (As := [.ref 0, .ref r35, V a7]) (rest := []) (mc' := p45.2.1) (ms' := p45.2.2) (dK D_Law_law_4 42 rfl) Q_Law_511 (fitK rfl) rfl (leK rfl) hk1 hn1 (tg_Law_groups ha7 e_p45) (kxB' ?_)
            refine wx_ifB_eq (pc := 475) (b := p45.1.1) (t := 490) (dK D_Law_law_4 43 rfl) rfl (fun hc46 => ?_) (fun hc46 => ?_)
            · replace h := ifP h hc46
              refine x_aloadn (pc := 478) (i0 := 1) (j := 1) (dK D_Law_law_4 44 rfl) rfl rfl ?_
              refine x_aloadn (pc := 479) (i0 := 2) (j := 2) (dK D_Law_law_4 45 rfl) rfl rfl ?_
              refine x_aloadn (pc := 480) (i0 := 3) (j := 3) (dK D_Law_law_4 46 rfl) rfl rfl ?_
              refine gdE h ?_
              clear h
              intro hk48 h
              refine bnE h ?_
              clear h
              intro p47 e_p47 h
              refine x_callX (pc := 481) (As := []) (rest := [.ref r35, .ref 0]) (mc' := 0) (ms' := 0) (dK D_Law_law_4 47 rfl) Q_Law_55 sx_AL_size (fitK rfl) (isK_at (Z := (p45.1.2.1, p45.1.2.2)) (ci := 13) hk48) rfl (leK rfl) (Nat.le_trans (bdk hb) hkt) (Nat.le_trans (bdn hb) hnt) (tg_AL_size  e_p47) (kxI' (fun h_p47 => ?_))
              refine bnE h ?_
              clear h
              intro p49 e_p49 h
              obtain ⟨yp49, h9, e9⟩ := adE2 h
              clear h
              subst e9
              have h := h9
              clear h9
              have hk1 := Nat.le_trans (bd1 hb) hkt
              have hn1 := Nat.le_trans (bd2 hb) hnt
              replace hb := bdA hb
              refine x_callS (pc := 484) (As := [.ref 0, .ref r35, V p47]) (rest := []) (mc' := p49.2.1) (ms' := p49.2.2) (dK D_Law_law_4 48 rfl) Q_Law_459 (fitK rfl) rfl (leK rfl) hk1 hn1 (tg_Law_same h_p47 e_p49) (kxB' ?_)
              refine wx_ifB_ne (pc := 487) (b := p49.1.1) (t := 492) (dK D_Law_law_4 49 rfl) rfl (fun hc50 => ?_) (fun hc50 => ?_)
              · replace h := ifP h hc50
                refine nmE h ?_
                clear h
                intro v51 e_v51 h
                refine wx_iinc (pc := 492) (j := 4) (a := a4) (z := 1) (ls2 := [(4, V v51), (0, .ref (XB + 200)), (1, .ref 0), (2, .ref r35), (3, .ref c3), (6, V a6), (7, V a7)]) (dK D_Law_law_5 2 rfl) rfl e_v51 (ltK rfl) rfl ?_
                refine x_goto (pc := 495) (tgt := 93) (dK D_Law_law_5 3 rfl) rfl ?_
                refine x_weak (ls' := [(0, .ref (XB + 200)), (1, .ref 0), (2, .ref r35), (3, .ref c3), (4, V v51)]) (sbc 1 rfl (sbc 2 rfl (sbc 3 rfl (sbc 4 rfl (sbc 0 rfl sbn))))) ?_
                replace h := ih _ _ h
                exact h _ _ hb (.inr ⟨_, rfl⟩) (Vn_in e_v51) hx hr
              · replace h := ifN h hc50
                refine wx_iconst (pc := 490) (dK D_Law_law_5 0 rfl) ?_
                obtain rfl := Option.some.inj h
                exact wk_iretB (pc := 491) (b := false) (dK D_Law_law_5 1 rfl) rfl (Nat.le_trans (bdk hb) hkt) (Nat.le_trans (bdn hb) hnt) (hr (false, (p49.1.2.1, p49.1.2.2)) rfl)
            · replace h := ifN h hc46
              refine wx_iconst (pc := 490) (dK D_Law_law_5 0 rfl) ?_
              obtain rfl := Option.some.inj h
              exact wk_iretB (pc := 491) (b := false) (dK D_Law_law_5 1 rfl) rfl (Nat.le_trans (bdk hb) hkt) (Nat.le_trans (bdn hb) hnt) (hr (false, (p45.1.2.1, p45.1.2.2)) rfl)
          · replace h := ifN h hc44
            refine wx_iconst (pc := 490) (dK D_Law_law_5 0 rfl) ?_
            obtain rfl := Option.some.inj h
            exact wk_iretB (pc := 491) (b := false) (dK D_Law_law_5 1 rfl) rfl (Nat.le_trans (bdk hb) hkt) (Nat.le_trans (bdn hb) hnt) (hr (false, (p43.1.2.1, p43.1.2.2)) rfl)
        · replace h := ifN h hc42
          refine wx_iconst (pc := 490) (dK D_Law_law_5 0 rfl) ?_
          obtain rfl := Option.some.inj h
          exact wk_iretB (pc := 491) (b := false) (dK D_Law_law_5 1 rfl) rfl (Nat.le_trans (bdk hb) hkt) (Nat.le_trans (bdn hb) hnt) (hr (false, (p41.1.2.1, p41.1.2.2)) rfl)
      · replace h := ifN h hc40
        refine wx_iconst (pc := 490) (dK D_Law_law_5 0 rfl) ?_
        obtain rfl := Option.some.inj h
        exact wk_iretB (pc := 491) (b := false) (dK D_Law_law_5 1 rfl) rfl (Nat.le_trans (bdk hb) hkt) (Nat.le_trans (bdn hb) hnt) (hr (false, (p39.1.2.1, p39.1.2.2)) rfl)
    · replace h := ifN h hc53
      refine x_goto (pc := 439) (tgt := 492) (dK D_Law_law_4 25 rfl) rfl ?_
      refine nmE h ?_
      clear h
      intro v52 e_v52 h
      refine wx_iinc (pc := 492) (j := 4) (a := a4) (z := 1) (ls2 := [(4, V v52), (0, .ref (XB + 200)), (1, .ref 0), (2, .ref r35), (3, .ref c3), (6, V a6), (7, V a7)]) (dK D_Law_law_5 2 rfl) rfl e_v52 (ltK rfl) rfl ?_
      refine x_goto (pc := 495) (tgt := 93) (dK D_Law_law_5 3 rfl) rfl ?_
      refine x_weak (ls' := [(0, .ref (XB + 200)), (1, .ref 0), (2, .ref r35), (3, .ref c3), (4, V v52)]) (sbc 1 rfl (sbc 2 rfl (sbc 3 rfl (sbc 4 rfl (sbc 0 rfl sbn))))) ?_
      replace h := ih _ _ h
      exact h _ _ hb (.inr ⟨_, rfl⟩) (Vn_in e_v52) hx hr
  · replace h := ifN h hc37
    refine wx_iconst (pc := 427) (dK D_Law_law_4 18 rfl) ?_
    obtain rfl := Option.some.inj h
    exact wk_iretB (pc := 428) (b := false) (dK D_Law_law_4 19 rfl) rfl (Nat.le_trans (bdk hb) hkt) (Nat.le_trans (bdn hb) hnt) (hr (false, (p36.1.2.1, p36.1.2.2)) rfl)
def jf2_Law_law_150_93 (sc : SC) (c3 : Nat) (go : Value × Int × LZ → Option (((Bool × LZ) ⊕ (LZ)) × Nat × Nat)) (c2 : Value) (a4 : Int) (a5 : Int) (a6 : Int) (a7 : Int) (st0 : Int) (S : St) (L : List PC) : Option (((Bool × LZ) ⊕ (LZ)) × Nat × Nat) := if st0 = 0 then (if L.length < 900000000 then adC 1 10 (nw L (12, dfl 12) fun r86 L87 => bnO (gn_LP_init r86 S L87) fun p89 => adC p89.2.1 p89.2.2 (if isK p89.1.2 c3 13 = true then (bnO (gn_AL_clear c3 p89.1.1 p89.1.2) fun p90 => adC p90.2.1 p90.2.2 (nm (wr (170 + (60 * a4))) fun v92 => bnO (gn_Law_plan sc r86 v92 p90.1.1 p90.1.2) fun p93 => adC p93.2.1 p93.2.2 (rfB p93.1.1 fun r94 => if isK p93.1.2.2 r94 16 = true then (bnO (gn_String_length r94 p93.1.2.1 p93.1.2.2) fun p95 => if 0 < p95 then (nm (wr (a7.tmod p95)) fun v98 => bnO (gn_Law_input r94 p93.1.2.1 p93.1.2.2) fun p99 => adC p99.2.1 p99.2.2 (bnO (fn_FP_load 0 p99.1.1) fun p100 => bnO (gn_Law_statements r94 p100.2 p99.1.2) fun p101 => if p100.1 = p101 then (bnO (fn_FP_errorCode 0 p100.2) fun p102 => if p102 = 0 then (bnO (fn_FP_errorPosition 0 p100.2) fun p103 => if p103 = (-1) then (if p99.1.2.length < 900000000 then adC 1 4 (nw p99.1.2 (15, dfl 15) fun r105 L106 => bnO (gn_SB_init r105 p100.2 L106) fun p108 => adC p108.2.1 p108.2.2 (if isK p108.1.2 r94 16 = true then (bnO (gn_String_substring2 r94 0 v98 p108.1.1 p108.1.2) fun p109 => adC p109.2.1 p109.2.2 (rfB p109.1.1 fun r111 => if isK p109.1.2.2 r105 15 = true then (bnO (gn_SB_append r105 r111 p109.1.2.1 p109.1.2.2) fun p112 => adC p112.2.1 p112.2.2 (rfB p112.1.1 fun r114 => if isK p112.1.2.2 r114 15 = true then (bnO (gn_SB_append r114 (XB + 23) p112.1.2.1 p112.1.2.2) fun p115 => adC p115.2.1 p115.2.2 (if isK p115.1.2.2 r94 16 = true then (bnO (gn_String_substring r94 v98 p115.1.2.1 p115.1.2.2) fun p117 => adC p117.2.1 p117.2.2 (rfB p117.1.1 fun r119 => rfB p115.1.1 fun r120 => if isK p117.1.2.2 r120 15 = true then (bnO (gn_SB_append r120 r119 p117.1.2.1 p117.1.2.2) fun p121 => adC p121.2.1 p121.2.2 (rfB p121.1.1 fun r123 => if isK p121.1.2.2 r123 15 = true then (bnO (gn_SB_toString r123 p121.1.2.1 p121.1.2.2) fun p124 => adC p124.2.1 p124.2.2 (rfB p124.1.1 fun r126 => bnO (gn_Law_input r126 p124.1.2.1 p124.1.2.2) fun p127 => adC p127.2.1 p127.2.2 (bnO (fn_FP_load 0 p127.1.1) fun p128 => if p128.1 = (-3) then (bnO (fn_FP_errorPosition 0 p128.2) fun p129 => if v98 < p129 then (some (.inl (false, (p128.2, p127.1.2)), 0, 0)) else (bnO (fn_FP_errorCode 0 p128.2) fun p130 => if 1 ≤ p130 then (jf2_Law_law_415_93 sc c3 go (.ref r86) a4 a6 a7 p128.2 p127.1.2) else (some (.inl (false, (p128.2, p127.1.2)), 0, 0)))) else (some (.inl (false, (p128.2, p127.1.2)), 0, 0))))) else none)) else none)) else none)) else none)) else none)) else none)) else none) else (some (.inl (false, (p100.2, p99.1.2)), 0, 0))) else (some (.inl (false, (p100.2, p99.1.2)), 0, 0))) else (some (.inl (false, (p100.2, p99.1.2)), 0, 0)))) else none) else none))) else none)) else none) else (if 34 ≤ st0 then (if isK L c3 13 = true then (bnO (gn_AL_isEmpty c3 S L) fun p29 => if p29 = true then (bnO (fn_FP_undo 0 S) fun p32 => if (bi p32.1) = 0 then (jf2_Law_law_415_93 sc c3 go c2 a4 a6 a7 p32.2 L) else (some (.inl (false, (p32.2, L)), 0, 0))) else (if isK L c3 13 = true then (bnO (gn_AL_size c3 S L) fun p55 => nm (wr (p55 - 1)) fun v57 => if isK L c3 13 = true then (bnO (gn_AL_remove c3 v57 S L) fun p58 => adC p58.2.1 p58.2.2 (rfB p58.1.1 fun r60 => if isK p58.1.2.2 r60 12 = true then (bnO (fn_FP_undo 0 p58.1.2.1) fun p62 => if (bi p62.1) = 1 then (jf2_Law_law_415_93 sc c3 go (.ref r60) a4 a6 a7 p62.2 p58.1.2.2) else (some (.inl (false, (p62.2, p58.1.2.2)), 0, 0))) else none)) else none) else none)) else none) else (rfB c2 fun r64 => if isK L r64 12 = true then (bnO (gn_LP_copy r64 S L) fun p65 => adC p65.2.1 p65.2.2 (nm (wr (a5.tdiv 40)) fun v67 => nm (wr (v67.tmod 21)) fun v68 => bnO (gn_Law_changes r64 v68 a6 a7 p65.1.2.1 p65.1.2.2) fun p69 => adC p69.2.1 p69.2.2 (if 0 ≤ p69.1.1 then (if p69.1.1 ≤ 0 then (if isK p69.1.2.2 c3 13 = true then (bnO (gn_AL_size c3 p69.1.2.1 p69.1.2.2) fun p70 => if p70 ≤ 20 then (jf2_Law_law_415_93 sc c3 go (.ref r64) a4 a6 a7 p69.1.2.1 p69.1.2.2) else (if isK p69.1.2.2 c3 13 = true then (bnO (gn_AL_remove c3 0 p69.1.2.1 p69.1.2.2) fun p72 => adC p72.2.1 p72.2.2 (jf2_Law_law_415_93 sc c3 go (.ref r64) a4 a6 a7 p72.1.2.1 p72.1.2.2)) else none)) else none) else (if isK p69.1.2.2 c3 13 = true then (bnO (gn_AL_add c3 p65.1.1 p69.1.2.1 p69.1.2.2) fun p75 => adC p75.2.1 p75.2.2 (if isK p75.1.2.2 c3 13 = true then (bnO (gn_AL_size c3 p75.1.2.1 p75.1.2.2) fun p77 => if p77 ≤ 20 then (jf2_Law_law_415_93 sc c3 go (.ref r64) a4 a6 a7 p75.1.2.1 p75.1.2.2) else (if isK p75.1.2.2 c3 13 = true then (bnO (gn_AL_remove c3 0 p75.1.2.1 p75.1.2.2) fun p79 => adC p79.2.1 p79.2.2 (jf2_Law_law_415_93 sc c3 go (.ref r64) a4 a6 a7 p79.1.2.1 p79.1.2.2)) else none)) else none)) else none)) else (some (.inl (false, (p69.1.2.1, p69.1.2.2)), 0, 0))))) else none))
theorem tj2_Law_law_150_93 {sc : SC} {c3 : Nat} {K : Option Value → List PC → Prop} {mc ms kt nt : Nat} (hkt : kt ≤ mc) (hnt : nt ≤ ms) {go : Value × Int × LZ → Option (((Bool × LZ) ⊕ (LZ)) × Nat × Nat)} (ih : ∀ (a : Value × Int × LZ) (q : ((Bool × LZ) ⊕ (LZ)) × Nat × Nat), go a = some q → ∀ k n, Bd k n kt nt q → (a.1 = .null ∨ ∃ b, a.1 = .ref b) → inR a.2.1 → (∀ e, q.1 = .inr e → GX sc M_Law_law mc ms 498 [] [] (wz e) kt nt K) → (∀ r, q.1 = .inl r → K (some (V (bi r.1))) (wz r.2)) → GX sc M_Law_law mc ms 93 [(0, .ref (XB + 200)), (1, .ref 0), (2, a.1), (3, .ref c3), (4, V a.2.1)] [] (wz a.2.2) k n K) {c2 : Value} (hc2 : c2 = .null ∨ ∃ b, c2 = .ref b) {a4 : Int} (ha4 : inR a4) {a5 : Int} (ha5 : inR a5) {a6 : Int} (ha6 : inR a6) {a7 : Int} (ha7 : inR a7) {st0 : Int} (hst0 : inR st0) {S : St} {L : List PC} {q : ((Bool × LZ) ⊕ (LZ)) × Nat × Nat} (h : jf2_Law_law_150_93 sc c3 go c2 a4 a5 a6 a7 st0 S L = some q) {k n : Nat} (hb : Bd k n kt nt q) (hx : (∀ e, q.1 = .inr e → GX sc M_Law_law mc ms 498 [] [] (wz e) kt nt K)) (hr : (∀ r, q.1 = .inl r → K (some (V (bi r.1))) (wz r.2))) : GX sc M_Law_law mc ms 150 [(0, .ref (XB + 200)), (1, .ref 0), (2, c2), (3, .ref c3), (4, V a4), (5, V a5), (6, V a6), (7, V a7)] [V st0] (wz (S, L)) k n K := by
  unfold jf2_Law_law_150_93 at h
  refine x_istore (pc := 150) (ls2 := [(8, V st0), (0, .ref (XB + 200)), (1, .ref 0), (2, c2), (3, .ref c3), (4, V a4), (5, V a5), (6, V a6), (7, V a7)]) (dK D_Law_law_1 31 rfl) (ltK rfl) rfl ?_
  refine x_iload (pc := 152) (j := 0) (dK D_Law_law_1 32 rfl) rfl ?_
  refine wx_if_ne (pc := 154) (t := 302) (dK D_Law_law_1 33 rfl) rfl hst0 (fun hc137 => ?_) (fun hc137 => ?_)
  · replace h := ifN h hc137
    refine x_iload (pc := 302) (j := 0) (dK D_Law_law_3 3 rfl) rfl ?_
    refine wx_bipush (pc := 304) (dK D_Law_law_3 4 rfl) rfl ?_
    refine wx_icmp_ge (pc := 306) (t := 371) (dK D_Law_law_3 5 rfl) rfl hst0 (inRk rfl) (fun hc84 => ?_) (fun hc84 => ?_)
    · replace h := ifP h hc84
      refine x_aloadn (pc := 371) (i0 := 3) (j := 4) (dK D_Law_law_3 39 rfl) rfl rfl ?_
      refine gdE h ?_
      clear h
      intro hk30 h
      refine bnE h ?_
      clear h
      intro p29 e_p29 h
      refine x_callX (pc := 372) (As := []) (rest := []) (mc' := 0) (ms' := 0) (dK D_Law_law_3 40 rfl) Q_Law_285 sx_AL_isEmpty (fitK rfl) (isK_at (Z := (S, L)) (ci := 13) hk30) rfl (leK rfl) (Nat.le_trans (bdk hb) hkt) (Nat.le_trans (bdn hb) hnt) (tg_AL_isEmpty  e_p29) (kxB' ?_)
      refine wx_ifB_ne (pc := 375) (b := p29) (t := 382) (dK D_Law_law_3 41 rfl) rfl (fun hc31 => ?_) (fun hc31 => ?_)
      · replace h := ifP h hc31
        refine wx_iconst (pc := 382) (dK D_Law_law_3 44 rfl) ?_
        refine x_istore (pc := 383) (ls2 := [(9, V 0), (8, V st0), (0, .ref (XB + 200)), (1, .ref 0), (2, c2), (3, .ref c3), (4, V a4), (5, V a5), (6, V a6), (7, V a7)]) (dK D_Law_law_3 45 rfl) (ltK rfl) rfl ?_
        refine x_iload (pc := 385) (j := 0) (dK D_Law_law_3 46 rfl) rfl ?_
        refine wx_if_eq (pc := 387) (t := 404) (dK D_Law_law_3 47 rfl) rfl (inRk rfl) (fun _ => ?_) (fun hc => absurd hc (by decide))
        refine x_aloadn (pc := 404) (i0 := 1) (j := 3) (dK D_Law_law_4 6 rfl) rfl rfl ?_
        refine bnE h ?_
        clear h
        intro p32 e_p32 h
        refine x_callX (pc := 405) (As := []) (rest := []) (mc' := 0) (ms' := 0) (dK D_Law_law_4 7 rfl) Q_Law_470 sx_FP_undo (fitK rfl) (isK_at (Z := (S, L)) (ci := 10) isK0) rfl (leK rfl) (Nat.le_trans (bdk hb) hkt) (Nat.le_trans (bdn hb) hnt) (clB (fun E => tf_FP_undo (X := xz L) xz_hc  e_p32)) (kxB' ?_)
        refine x_iload (pc := 408) (j := 0) (dK D_Law_law_4 8 rfl) rfl ?_
        refine wx_icmp_eq (pc := 410) (t := 415) (dK D_Law_law_4 9 rfl) rfl (bi_in _) (inRk rfl) (fun hc54 => ?_) (fun hc54 => ?_)
        · replace h := ifP h hc54
          refine x_weak (ls' := [(0, .ref (XB + 200)), (1, .ref 0), (2, c2), (3, .ref c3), (4, V a4), (6, V a6), (7, V a7)]) (sbc 2 rfl (sbc 3 rfl (sbc 4 rfl (sbc 5 rfl (sbc 6 rfl (sbc 8 rfl (sbc 9 rfl sbn))))))) ?_
          exact tj2_Law_law_415_93 hkt hnt ih hc2 ha4 ha6 ha7 h hb hx hr
        · replace h := ifN h hc54
          refine wx_iconst (pc := 413) (dK D_Law_law_4 10 rfl) ?_
          obtain rfl := Option.some.inj h
          exact wk_iretB (pc := 414) (b := false) (dK D_Law_law_4 11 rfl) rfl (Nat.le_trans (bdk hb) hkt) (Nat.le_trans (bdn hb) hnt) (hr (false, (p32.2, L)) rfl)
      · replace h := ifN h hc31
        refine wx_iconst (pc := 378) (dK D_Law_law_3 42 rfl) ?_
        refine x_goto (pc := 379) (tgt := 383) (dK D_Law_law_3 43 rfl) rfl ?_
        refine x_istore (pc := 383) (ls2 := [(9, V 1), (8, V st0), (0, .ref (XB + 200)), (1, .ref 0), (2, c2), (3, .ref c3), (4, V a4), (5, V a5), (6, V a6), (7, V a7)]) (dK D_Law_law_3 45 rfl) (ltK rfl) rfl ?_
        refine x_iload (pc := 385) (j := 0) (dK D_Law_law_3 46 rfl) rfl ?_
        refine wx_if_eq (pc := 387) (t := 404) (dK D_Law_law_3 47 rfl) rfl (inRk rfl) (fun hc => absurd hc (by decide)) (fun _ => ?_)
        refine x_aloadn (pc := 390) (i0 := 3) (j := 5) (dK D_Law_law_3 48 rfl) rfl rfl ?_
        refine x_aloadn (pc := 391) (i0 := 3) (j := 5) (dK D_Law_law_3 49 rfl) rfl rfl ?_
        refine gdE h ?_
        clear h
        intro hk56 h
        refine bnE h ?_
        clear h
        intro p55 e_p55 h
        refine x_callX (pc := 392) (As := []) (rest := [.ref c3]) (mc' := 0) (ms' := 0) (dK D_Law_law_4 0 rfl) Q_Law_55 sx_AL_size (fitK rfl) (isK_at (Z := (S, L)) (ci := 13) hk56) rfl (leK rfl) (Nat.le_trans (bdk hb) hkt) (Nat.le_trans (bdn hb) hnt) (tg_AL_size  e_p55) (kxI' (fun h_p55 => ?_))
        refine wx_iconst (pc := 395) (dK D_Law_law_4 1 rfl) ?_
        refine wx_isub (pc := 396) (dK D_Law_law_4 2 rfl) ?_
        refine nmE h ?_
        clear h
        intro v57 e_v57 h
        refine wtop e_v57 ?_
        refine gdE h ?_
        clear h
        intro hk59 h
        refine bnE h ?_
        clear h
        intro p58 e_p58 h
        obtain ⟨yp58, h9, e9⟩ := adE2 h
        clear h
        subst e9
        have h := h9
        clear h9
        have hk1 := Nat.le_trans (bd1 hb) hkt
        have hn1 := Nat.le_trans (bd2 hb) hnt
        replace hb := bdA hb
        refine x_callX (pc := 397) (As := [V v57]) (rest := []) (mc' := p58.2.1) (ms' := p58.2.2) (dK D_Law_law_4 3 rfl) Q_Law_503 sx_AL_remove (fitK rfl) (isK_at (Z := (S, L)) (ci := 13) hk59) rfl (leK rfl) hk1 hn1 (tg_AL_remove (Vn_in e_v57) e_p58) (kxR (fun h_p58 => ?_))
        refine rfE h ?_
        clear h
        intro r60 e_r60 h
        rw [e_r60]
        refine gdE h ?_
        clear h
        intro hk61 h
        refine x_cast (pc := 400) (dK D_Law_law_4 4 rfl) q_732 (isK_at (Z := (p58.1.2.1, p58.1.2.2)) (ci := 12) hk61) ?_
        refine x_astoren (pc := 403) (i0 := 2) (ls2 := [(2, .ref r60), (9, V 1), (8, V st0), (0, .ref (XB + 200)), (1, .ref 0), (3, .ref c3), (4, V a4), (5, V a5), (6, V a6), (7, V a7)]) (dK D_Law_law_4 5 rfl) rfl (ltK rfl) rfl ?_
        refine x_aloadn (pc := 404) (i0 := 1) (j := 4) (dK D_Law_law_4 6 rfl) rfl rfl ?_
        refine bnE h ?_
        clear h
        intro p62 e_p62 h
        refine x_callX (pc := 405) (As := []) (rest := []) (mc' := 0) (ms' := 0) (dK D_Law_law_4 7 rfl) Q_Law_470 sx_FP_undo (fitK rfl) (isK_at (Z := (p58.1.2.1, p58.1.2.2)) (ci := 10) isK0) rfl (leK rfl) (Nat.le_trans (bdk hb) hkt) (Nat.le_trans (bdn hb) hnt) (clB (fun E => tf_FP_undo (X := xz p58.1.2.2) xz_hc  e_p62)) (kxB' ?_)
        refine x_iload (pc := 408) (j := 1) (dK D_Law_law_4 8 rfl) rfl ?_
        refine wx_icmp_eq (pc := 410) (t := 415) (dK D_Law_law_4 9 rfl) rfl (bi_in _) (inRk rfl) (fun hc63 => ?_) (fun hc63 => ?_)
        · replace h := ifP h hc63
          refine x_weak (ls' := [(0, .ref (XB + 200)), (1, .ref 0), (2, .ref r60), (3, .ref c3), (4, V a4), (6, V a6), (7, V a7)]) (sbc 3 rfl (sbc 4 rfl (sbc 0 rfl (sbc 5 rfl (sbc 6 rfl (sbc 8 rfl (sbc 9 rfl sbn))))))) ?_
          exact tj2_Law_law_415_93 hkt hnt ih (.inr ⟨_, rfl⟩) ha4 ha6 ha7 h hb hx hr
        · replace h := ifN h hc63
          refine wx_iconst (pc := 413) (dK D_Law_law_4 10 rfl) ?_
          obtain rfl := Option.some.inj h
          exact wk_iretB (pc := 414) (b := false) (dK D_Law_law_4 11 rfl) rfl (Nat.le_trans (bdk hb) hkt) (Nat.le_trans (bdn hb) hnt) (hr (false, (p62.2, p58.1.2.2)) rfl)
    · replace h := ifN h hc84
      refine x_aloadnV (pc := 309) (i0 := 2) (j := 3) hc2 (dK D_Law_law_3 6 rfl) rfl rfl ?_
      refine rfE h ?_
      clear h
      intro r64 e_r64 h
      rw [e_r64]
      refine gdE h ?_
      clear h
      intro hk66 h
      refine bnE h ?_
      clear h
      intro p65 e_p65 h
      obtain ⟨yp65, h9, e9⟩ := adE2 h
      clear h
      subst e9
      have h := h9
      clear h9
      have hk1 := Nat.le_trans (bd1 hb) hkt
      have hn1 := Nat.le_trans (bd2 hb) hnt
      replace hb := bdA hb
      refine x_callX (pc := 310) (As := []) (rest := []) (mc' := p65.2.1) (ms' := p65.2.2) (dK D_Law_law_3 7 rfl) Q_Law_243 sx_LP_copy (fitK rfl) (isK_at (Z := (S, L)) (ci := 12) hk66) rfl (leK rfl) hk1 hn1 (tg_LP_copy  e_p65) (kxR (fun h_p65 => ?_))
      refine x_astoreV (pc := 313) (ls2 := [(9, p65.1.1), (8, V st0), (0, .ref (XB + 200)), (1, .ref 0), (2, .ref r64), (3, .ref c3), (4, V a4), (5, V a5), (6, V a6), (7, V a7)]) h_p65 (dK D_Law_law_3 8 rfl) (ltK rfl) rfl ?_
      refine x_aloadn (pc := 315) (i0 := 1) (j := 3) (dK D_Law_law_3 9 rfl) rfl rfl ?_
      refine x_aloadn (pc := 316) (i0 := 2) (j := 4) (dK D_Law_law_3 10 rfl) rfl rfl ?_
      refine x_iload (pc := 317) (j := 7) (dK D_Law_law_3 11 rfl) rfl ?_
      refine wx_bipush (pc := 319) (dK D_Law_law_3 12 rfl) rfl ?_
      refine wx_idiv (pc := 321) (dK D_Law_law_3 13 rfl) ha5 (inRk rfl) (by decide) ?_
      refine wx_bipush (pc := 322) (dK D_Law_law_3 14 rfl) rfl ?_
      refine nmE h ?_
      clear h
      intro v67 e_v67 h
      refine wsk (st' := [V 21, V v67, .ref r64, .ref 0]) (congrArg (fun z9 => [V 21, z9, .ref r64, .ref 0]) (Vn e_v67)) ?_
      refine wx_irem (pc := 324) (dK D_Law_law_3 15 rfl) (Vn_in e_v67) (inRk rfl) (by decide) ?_
      refine x_iload (pc := 325) (j := 8) (dK D_Law_law_3 16 rfl) rfl ?_
      refine x_iload (pc := 327) (j := 9) (dK D_Law_law_3 17 rfl) rfl ?_
      refine nmE h ?_
      clear h
      intro v68 e_v68 h
      refine wsk (st' := [V a7, V a6, V v68, .ref r64, .ref 0]) (congrArg (fun z9 => [V a7, V a6, z9, .ref r64, .ref 0]) (Vn e_v68)) ?_
      refine bnE h ?_
      clear h
      intro p69 e_p69 h
      obtain ⟨yp69, h9, e9⟩ := adE2 h
      clear h
      subst e9
      have h := h9
      clear h9
      have hk1 := Nat.le_trans (bd1 hb) hkt
      have hn1 := Nat.le_trans (bd2 hb) hnt
      replace hb := bdA hb
      refine x_callS (pc := 329) (As := [.ref 0, .ref r64, V v68, V a6, V a7]) (rest := []) (mc' := p69.2.1) (ms' := p69.2.2) (dK D_Law_law_3 18 rfl) Q_Law_499 (fitK rfl) rfl (leK rfl) hk1 hn1 (tg_Law_changes (Vn_in e_v68) ha6 ha7 e_p69) (kxI' (fun h_p69 => ?_))
      refine x_istore (pc := 332) (ls2 := [(10, V p69.1.1), (9, p65.1.1), (8, V st0), (0, .ref (XB + 200)), (1, .ref 0), (2, .ref r64), (3, .ref c3), (4, V a4), (5, V a5), (6, V a6), (7, V a7)]) (dK D_Law_law_3 19 rfl) (ltK rfl) (by simp [stI, List.filter, cato h_p65]) ?_
      refine x_iload (pc := 334) (j := 0) (dK D_Law_law_3 20 rfl) rfl ?_
      refine wx_if_ge (pc := 336) (t := 341) (dK D_Law_law_3 21 rfl) rfl h_p69 (fun hc83 => ?_) (fun hc83 => ?_)
      · replace h := ifP h hc83
        refine x_iload (pc := 341) (j := 0) (dK D_Law_law_3 24 rfl) rfl ?_
        refine wx_if_le (pc := 343) (t := 353) (dK D_Law_law_3 25 rfl) rfl h_p69 (fun hc82 => ?_) (fun hc82 => ?_)
        · replace h := ifP h hc82
          refine x_aloadn (pc := 353) (i0 := 3) (j := 6) (dK D_Law_law_3 30 rfl) rfl rfl ?_
          refine gdE h ?_
          clear h
          intro hk71 h
          refine bnE h ?_
          clear h
          intro p70 e_p70 h
          refine x_callX (pc := 354) (As := []) (rest := []) (mc' := 0) (ms' := 0) (dK D_Law_law_3 31 rfl) Q_Law_55 sx_AL_size (fitK rfl) (isK_at (Z := (p69.1.2.1, p69.1.2.2)) (ci := 13) hk71) rfl (leK rfl) (Nat.le_trans (bdk hb) hkt) (Nat.le_trans (bdn hb) hnt) (tg_AL_size  e_p70) (kxI' (fun h_p70 => ?_))
          refine wx_bipush (pc := 357) (dK D_Law_law_3 32 rfl) rfl ?_
          refine wx_icmp_le (pc := 359) (t := 368) (dK D_Law_law_3 33 rfl) rfl h_p70 (inRk rfl) (fun hc74 => ?_) (fun hc74 => ?_)
          · replace h := ifP h hc74
            refine x_goto (pc := 368) (tgt := 415) (dK D_Law_law_3 38 rfl) rfl ?_
            refine x_weak (ls' := [(0, .ref (XB + 200)), (1, .ref 0), (2, .ref r64), (3, .ref c3), (4, V a4), (6, V a6), (7, V a7)]) (sbc 3 rfl (sbc 4 rfl (sbc 5 rfl (sbc 6 rfl (sbc 7 rfl (sbc 9 rfl (sbc 10 rfl sbn))))))) ?_
            exact tj2_Law_law_415_93 hkt hnt ih (.inr ⟨_, rfl⟩) ha4 ha6 ha7 h hb hx hr
          · replace h := ifN h hc74
            refine x_aloadn (pc := 362) (i0 := 3) (j := 6) (dK D_Law_law_3 34 rfl) rfl rfl ?_
            refine wx_iconst (pc := 363) (dK D_Law_law_3 35 rfl) ?_
            refine gdE h ?_
            clear h
            intro hk73 h
            refine bnE h ?_
            clear h
            intro p72 e_p72 h
            obtain ⟨yp72, h9, e9⟩ := adE2 h
            clear h
            subst e9
            have h := h9
            clear h9
            have hk1 := Nat.le_trans (bd1 hb) hkt
            have hn1 := Nat.le_trans (bd2 hb) hnt
            replace hb := bdA hb
            refine x_callX (pc := 364) (As := [V 0]) (rest := []) (mc' := p72.2.1) (ms' := p72.2.2) (dK D_Law_law_3 36 rfl) Q_Law_503 sx_AL_remove (fitK rfl) (isK_at (Z := (p69.1.2.1, p69.1.2.2)) (ci := 13) hk73) rfl (leK rfl) hk1 hn1 (tg_AL_remove (inRk rfl) e_p72) (kxR (fun h_p72 => ?_))
            refine x_pop (pc := 367) (dK D_Law_law_3 37 rfl) (cato h_p72) ?_
            refine x_goto (pc := 368) (tgt := 415) (dK D_Law_law_3 38 rfl) rfl ?_
            refine x_weak (ls' := [(0, .ref (XB + 200)), (1, .ref 0), (2, .ref r64), (3, .ref c3), (4, V a4), (6, V a6), (7, V a7)]) (sbc 3 rfl (sbc 4 rfl (sbc 5 rfl (sbc 6 rfl (sbc 7 rfl (sbc 9 rfl (sbc 10 rfl sbn))))))) ?_
            exact tj2_Law_law_415_93 hkt hnt ih (.inr ⟨_, rfl⟩) ha4 ha6 ha7 h hb hx hr
        · replace h := ifN h hc82
          refine x_aloadn (pc := 346) (i0 := 3) (j := 6) (dK D_Law_law_3 26 rfl) rfl rfl ?_
          refine x_aloadV (pc := 347) (j := 1) h_p65 (dK D_Law_law_3 27 rfl) rfl ?_
          refine gdE h ?_
          clear h
          intro hk76 h
          refine bnE h ?_
          clear h
          intro p75 e_p75 h
          obtain ⟨yp75, h9, e9⟩ := adE2 h
          clear h
          subst e9
          have h := h9
          clear h9
          have hk1 := Nat.le_trans (bd1 hb) hkt
          have hn1 := Nat.le_trans (bd2 hb) hnt
          replace hb := bdA hb
          refine x_callX (pc := 349) (As := [p65.1.1]) (rest := []) (mc' := p75.2.1) (ms' := p75.2.2) (dK D_Law_law_3 28 rfl) Q_Law_378 sx_AL_add (fitK rfl) (isK_at (Z := (p69.1.2.1, p69.1.2.2)) (ci := 13) hk76) rfl (leK rfl) hk1 hn1 (tg_AL_add h_p65 e_p75) (kxB' ?_)
          refine x_pop (pc := 352) (dK D_Law_law_3 29 rfl) rfl ?_
          refine x_aloadn (pc := 353) (i0 := 3) (j := 6) (dK D_Law_law_3 30 rfl) rfl rfl ?_
          refine gdE h ?_
          clear h
          intro hk78 h
          refine bnE h ?_
          clear h
          intro p77 e_p77 h
          refine x_callX (pc := 354) (As := []) (rest := []) (mc' := 0) (ms' := 0) (dK D_Law_law_3 31 rfl) Q_Law_55 sx_AL_size (fitK rfl) (isK_at (Z := (p75.1.2.1, p75.1.2.2)) (ci := 13) hk78) rfl (leK rfl) (Nat.le_trans (bdk hb) hkt) (Nat.le_trans (bdn hb) hnt) (tg_AL_size  e_p77) (kxI' (fun h_p77 => ?_))
          refine wx_bipush (pc := 357) (dK D_Law_law_3 32 rfl) rfl ?_
          refine wx_icmp_le (pc := 359) (t := 368) (dK D_Law_law_3 33 rfl) rfl h_p77 (inRk rfl) (fun hc81 => ?_) (fun hc81 => ?_)
          · replace h := ifP h hc81
            refine x_goto (pc := 368) (tgt := 415) (dK D_Law_law_3 38 rfl) rfl ?_
            refine x_weak (ls' := [(0, .ref (XB + 200)), (1, .ref 0), (2, .ref r64), (3, .ref c3), (4, V a4), (6, V a6), (7, V a7)]) (sbc 3 rfl (sbc 4 rfl (sbc 5 rfl (sbc 6 rfl (sbc 7 rfl (sbc 9 rfl (sbc 10 rfl sbn))))))) ?_
            exact tj2_Law_law_415_93 hkt hnt ih (.inr ⟨_, rfl⟩) ha4 ha6 ha7 h hb hx hr
          · replace h := ifN h hc81
            refine x_aloadn (pc := 362) (i0 := 3) (j := 6) (dK D_Law_law_3 34 rfl) rfl rfl ?_
            refine wx_iconst (pc := 363) (dK D_Law_law_3 35 rfl) ?_
            refine gdE h ?_
            clear h
            intro hk80 h
            refine bnE h ?_
            clear h
            intro p79 e_p79 h
            obtain ⟨yp79, h9, e9⟩ := adE2 h
            clear h
            subst e9
            have h := h9
            clear h9
            have hk1 := Nat.le_trans (bd1 hb) hkt
            have hn1 := Nat.le_trans (bd2 hb) hnt
            replace hb := bdA hb
            refine x_callX (pc := 364) (As := [V 0]) (rest := []) (mc' := p79.2.1) (ms' := p79.2.2) (dK D_Law_law_3 36 rfl) Q_Law_503 sx_AL_remove (fitK rfl) (isK_at (Z := (p75.1.2.1, p75.1.2.2)) (ci := 13) hk80) rfl (leK rfl) hk1 hn1 (tg_AL_remove (inRk rfl) e_p79) (kxR (fun h_p79 => ?_))
            refine x_pop (pc := 367) (dK D_Law_law_3 37 rfl) (cato h_p79) ?_
            refine x_goto (pc := 368) (tgt := 415) (dK D_Law_law_3 38 rfl) rfl ?_
            refine x_weak (ls' := [(0, .ref (XB + 200)), (1, .ref 0), (2, .ref r64), (3, .ref c3), (4, V a4), (6, V a6), (7, V a7)]) (sbc 3 rfl (sbc 4 rfl (sbc 5 rfl (sbc 6 rfl (sbc 7 rfl (sbc 9 rfl (sbc 10 rfl sbn))))))) ?_
            exact tj2_Law_law_415_93 hkt hnt ih (.inr ⟨_, rfl⟩) ha4 ha6 ha7 h hb hx hr
      · replace h := ifN h hc83
        refine wx_iconst (pc := 339) (dK D_Law_law_3 22 rfl) ?_
        obtain rfl := Option.some.inj h
        exact wk_iretB (pc := 340) (b := false) (dK D_Law_law_3 23 rfl) rfl (Nat.le_trans (bdk hb) hkt) (Nat.le_trans (bdn hb) hnt) (hr (false, (p69.1.2.1, p69.1.2.2)) rfl)
  · replace h := ifP h hc137
    refine gdE h ?_
    clear h
    intro hl85 h
    obtain ⟨y88, h9, e9⟩ := adE2 h
    clear h
    subst e9
    have h := h9
    clear h9
    refine nwE h ?_
    clear h
    intro r86 L87 e_r86 e_L87 h
    have hk1 := Nat.le_trans (bd1 hb) hkt
    have hn1 := Nat.le_trans (bd2 hb) hnt
    replace hb := bdA hb
    refine wn_new (Z := (S, L)) (pc := 157) (ci := 12) (N := 10) e_r86 e_L87 hl85 rfl (dK D_Law_law_1 34 rfl) (ltK rfl) q_732 q_733 q_14 hk1 hn1 ?_
    refine x_dup (pc := 160) (dK D_Law_law_1 35 rfl) rfl ?_
    refine bnE h ?_
    clear h
    intro p89 e_p89 h
    obtain ⟨yp89, h9, e9⟩ := adE2 h
    clear h
    subst e9
    have h := h9
    clear h9
    have hk1 := Nat.le_trans (bd1 hb) hkt
    have hn1 := Nat.le_trans (bd2 hb) hnt
    replace hb := bdA hb
    refine x_callIN (pc := 161) (As := []) (rest := [.ref r86]) (mc' := p89.2.1) (ms' := p89.2.2) (dK D_Law_law_1 36 rfl) Q_Law_458 (fitK rfl) rfl (leK rfl) hk1 hn1 (tg_LP_init  e_p89) (kxU ?_)
    refine x_astoren (pc := 164) (i0 := 2) (ls2 := [(2, .ref r86), (8, V st0), (0, .ref (XB + 200)), (1, .ref 0), (3, .ref c3), (4, V a4), (5, V a5), (6, V a6), (7, V a7)]) (dK D_Law_law_1 37 rfl) rfl (ltK rfl) rfl ?_
    refine x_aloadn (pc := 165) (i0 := 3) (j := 4) (dK D_Law_law_1 38 rfl) rfl rfl ?_
    refine gdE h ?_
    clear h
    intro hk91 h
    refine bnE h ?_
    clear h
    intro p90 e_p90 h
    obtain ⟨yp90, h9, e9⟩ := adE2 h
    clear h
    subst e9
    have h := h9
    clear h9
    have hk1 := Nat.le_trans (bd1 hb) hkt
    have hn1 := Nat.le_trans (bd2 hb) hnt
    replace hb := bdA hb
    refine x_callX (pc := 166) (As := []) (rest := []) (mc' := p90.2.1) (ms' := p90.2.2) (dK D_Law_law_1 39 rfl) Q_Law_473 sx_AL_clear (fitK rfl) (isK_at (Z := (p89.1.1, p89.1.2)) (ci := 13) hk91) rfl (leK rfl) hk1 hn1 (tg_AL_clear  e_p90) (kxU ?_)
    refine x_aloadn (pc := 169) (i0 := 2) (j := 0) (dK D_Law_law_1 40 rfl) rfl rfl ?_
    refine x_aloadn (pc := 170) (i0 := 0) (j := 2) (dK D_Law_law_1 41 rfl) rfl rfl ?_
    refine wx_sipush (pc := 171) (dK D_Law_law_1 42 rfl) rfl ?_
    refine wx_bipush (pc := 174) (dK D_Law_law_1 43 rfl) rfl ?_
    refine x_iload (pc := 176) (j := 5) (dK D_Law_law_1 44 rfl) rfl ?_
    refine wx_imul (pc := 178) (dK D_Law_law_1 45 rfl) ?_
    refine wx_iadd (pc := 179) (dK D_Law_law_1 46 rfl) ?_
    refine nmE h ?_
    clear h
    intro v92 e_v92 h
    refine wtop e_v92 ?_
    refine bnE h ?_
    clear h
    intro p93 e_p93 h
    obtain ⟨yp93, h9, e9⟩ := adE2 h
    clear h
    subst e9
    have h := h9
    clear h9
    have hk1 := Nat.le_trans (bd1 hb) hkt
    have hn1 := Nat.le_trans (bd2 hb) hnt
    replace hb := bdA hb
    refine x_callS (pc := 180) (As := [.ref r86, .ref (XB + 200), V v92]) (rest := []) (mc' := p93.2.1) (ms' := p93.2.2) (dK D_Law_law_1 47 rfl) Q_Law_475 (fitK rfl) rfl (leK rfl) hk1 hn1 (tg_Law_plan (Vn_in e_v92) e_p93) (kxR (fun h_p93 => ?_))
    refine x_astoreV (pc := 183) (ls2 := [(9, p93.1.1), (2, .ref r86), (8, V st0), (0, .ref (XB + 200)), (1, .ref 0), (3, .ref c3), (4, V a4), (5, V a5), (6, V a6), (7, V a7)]) h_p93 (dK D_Law_law_1 48 rfl) (ltK rfl) rfl ?_
    refine x_iload (pc := 185) (j := 9) (dK D_Law_law_1 49 rfl) rfl ?_
    refine x_aloadV (pc := 187) (j := 0) h_p93 (dK D_Law_law_2 0 rfl) rfl ?_
    refine rfE h ?_
    clear h
    intro r94 e_r94 h
    rw [e_r94]
    refine gdE h ?_
    clear h
    intro hk96 h
    refine bnE h ?_
    clear h
    intro p95 e_p95 h
    refine x_callX (pc := 189) (As := []) (rest := [V a7]) (mc' := 0) (ms' := 0) (dK D_Law_law_2 1 rfl) Q_Law_14 sx_String_length (fitK rfl) (isK_at (Z := (p93.1.2.1, p93.1.2.2)) (ci := 16) hk96) rfl (leK rfl) (Nat.le_trans (bdk hb) hkt) (Nat.le_trans (bdn hb) hnt) (tg_String_length  e_p95) (kxI' (fun h_p95 => ?_))
    refine gdE h ?_
    clear h
    intro hp97 h
    refine wx_irem (pc := 192) (dK D_Law_law_2 2 rfl) ha7 h_p95 hp97 ?_
    refine nmE h ?_
    clear h
    intro v98 e_v98 h
    refine wtop e_v98 ?_
    refine x_istore (pc := 193) (ls2 := [(10, V v98), (9, .ref r94), (2, .ref r86), (8, V st0), (0, .ref (XB + 200)), (1, .ref 0), (3, .ref c3), (4, V a4), (5, V a5), (6, V a6), (7, V a7)]) (dK D_Law_law_2 3 rfl) (ltK rfl) rfl ?_
    refine x_aloadn (pc := 195) (i0 := 1) (j := 5) (dK D_Law_law_2 4 rfl) rfl rfl ?_
    refine x_aload (pc := 196) (j := 1) (dK D_Law_law_2 5 rfl) rfl ?_
    refine bnE h ?_
    clear h
    intro p99 e_p99 h
    obtain ⟨yp99, h9, e9⟩ := adE2 h
    clear h
    subst e9
    have h := h9
    clear h9
    have hk1 := Nat.le_trans (bd1 hb) hkt
    have hn1 := Nat.le_trans (bd2 hb) hnt
    replace hb := bdA hb
    refine x_callS (pc := 198) (As := [.ref 0, .ref r94]) (rest := []) (mc' := p99.2.1) (ms' := p99.2.2) (dK D_Law_law_2 6 rfl) Q_Law_479 (fitK rfl) rfl (leK rfl) hk1 hn1 (tg_Law_input  e_p99) (kxU ?_)
    refine x_aloadn (pc := 201) (i0 := 1) (j := 5) (dK D_Law_law_2 7 rfl) rfl rfl ?_
    refine bnE h ?_
    clear h
    intro p100 e_p100 h
    refine x_callX (pc := 202) (As := []) (rest := []) (mc' := 0) (ms' := 0) (dK D_Law_law_2 8 rfl) Q_Law_483 sx_FP_load (fitK rfl) (isK_at (Z := (p99.1.1, p99.1.2)) (ci := 10) isK0) rfl (leK rfl) (Nat.le_trans (bdk hb) hkt) (Nat.le_trans (bdn hb) hnt) (clI (fun E => tf_FP_load (X := xz p99.1.2) xz_hc  e_p100)) (kxI' (fun h_p100 => ?_))
    refine x_aload (pc := 205) (j := 1) (dK D_Law_law_2 9 rfl) rfl ?_
    refine bnE h ?_
    clear h
    intro p101 e_p101 h
    refine x_callS (pc := 207) (As := [.ref r94]) (rest := [V p100.1]) (mc' := 0) (ms' := 0) (dK D_Law_law_2 10 rfl) Q_Law_486 (fitK rfl) rfl (leK rfl) (Nat.le_trans (bdk hb) hkt) (Nat.le_trans (bdn hb) hnt) (tg_Law_statements  e_p101) (kxI' (fun h_p101 => ?_))
    refine wx_icmp_ne (pc := 210) (t := 228) (dK D_Law_law_2 11 rfl) rfl h_p100 h_p101 (fun hc136 => ?_) (fun hc136 => ?_)
    · replace h := ifN h hc136
      refine wx_iconst (pc := 228) (dK D_Law_law_2 19 rfl) ?_
      obtain rfl := Option.some.inj h
      exact wk_iretB (pc := 229) (b := false) (dK D_Law_law_2 20 rfl) rfl (Nat.le_trans (bdk hb) hkt) (Nat.le_trans (bdn hb) hnt) (hr (false, (p100.2, p99.1.2)) rfl)
    · replace h := ifP h hc136
      refine x_aloadn (pc := 213) (i0 := 1) (j := 5) (dK D_Law_law_2 12 rfl) rfl rfl ?_
      refine bnE h ?_
      clear h
      intro p102 e_p102 h
      refine x_callX (pc := 214) (As := []) (rest := []) (mc' := 0) (ms' := 0) (dK D_Law_law_2 13 rfl) Q_Law_464 sx_FP_errorCode (fitK rfl) (isK_at (Z := (p100.2, p99.1.2)) (ci := 10) isK0) rfl (leK rfl) (Nat.le_trans (bdk hb) hkt) (Nat.le_trans (bdn hb) hnt) (clI (fun E => tf_FP_errorCode (X := xz p99.1.2) xz_hc  e_p102)) (kxI' (fun h_p102 => ?_))
      refine wx_if_ne (pc := 217) (t := 228) (dK D_Law_law_2 14 rfl) rfl h_p102 (fun hc135 => ?_) (fun hc135 => ?_)
      · replace h := ifN h hc135
        refine wx_iconst (pc := 228) (dK D_Law_law_2 19 rfl) ?_
        obtain rfl := Option.some.inj h
        exact wk_iretB (pc := 229) (b := false) (dK D_Law_law_2 20 rfl) rfl (Nat.le_trans (bdk hb) hkt) (Nat.le_trans (bdn hb) hnt) (hr (false, (p100.2, p99.1.2)) rfl)
      · replace h := ifP h hc135
        refine x_aloadn (pc := 220) (i0 := 1) (j := 5) (dK D_Law_law_2 15 rfl) rfl rfl ?_
        refine bnE h ?_
        clear h
        intro p103 e_p103 h
        refine x_callX (pc := 221) (As := []) (rest := []) (mc' := 0) (ms' := 0) (dK D_Law_law_2 16 rfl) Q_Law_467 sx_FP_errorPosition (fitK rfl) (isK_at (Z := (p100.2, p99.1.2)) (ci := 10) isK0) rfl (leK rfl) (Nat.le_trans (bdk hb) hkt) (Nat.le_trans (bdn hb) hnt) (clI (fun E => tf_FP_errorPosition (X := xz p99.1.2) xz_hc  e_p103)) (kxI' (fun h_p103 => ?_))
        refine wx_iconst (pc := 224) (dK D_Law_law_2 17 rfl) ?_
        refine wx_icmp_eq (pc := 225) (t := 230) (dK D_Law_law_2 18 rfl) rfl h_p103 (inRk rfl) (fun hc134 => ?_) (fun hc134 => ?_)
        · replace h := ifP h hc134
          refine x_aloadn (pc := 230) (i0 := 1) (j := 5) (dK D_Law_law_2 21 rfl) rfl rfl ?_
          refine gdE h ?_
          clear h
          intro hl104 h
          obtain ⟨y107, h9, e9⟩ := adE2 h
          clear h
          subst e9
          have h := h9
          clear h9
          refine nwE h ?_
          clear h
          intro r105 L106 e_r105 e_L106 h
          have hk1 := Nat.le_trans (bd1 hb) hkt
          have hn1 := Nat.le_trans (bd2 hb) hnt
          replace hb := bdA hb
          refine wn_new (Z := (p100.2, p99.1.2)) (pc := 231) (ci := 15) (N := 4) e_r105 e_L106 hl104 rfl (dK D_Law_law_2 22 rfl) (ltK rfl) q_1275 q_1276 q_33 hk1 hn1 ?_
          refine x_dup (pc := 234) (dK D_Law_law_2 23 rfl) rfl ?_
          refine bnE h ?_
          clear h
          intro p108 e_p108 h
          obtain ⟨yp108, h9, e9⟩ := adE2 h
          clear h
          subst e9
          have h := h9
          clear h9
          have hk1 := Nat.le_trans (bd1 hb) hkt
          have hn1 := Nat.le_trans (bd2 hb) hnt
          replace hb := bdA hb
          refine x_callI (pc := 235) (As := []) (rest := [.ref r105, .ref 0]) (mc' := p108.2.1) (ms' := p108.2.2) (dK D_Law_law_2 24 rfl) Q_Law_165 (fitK rfl) rfl (leK rfl) hk1 hn1 (tg_SB_init  e_p108) (kxU ?_)
          refine x_aload (pc := 238) (j := 1) (dK D_Law_law_2 25 rfl) rfl ?_
          refine wx_iconst (pc := 240) (dK D_Law_law_2 26 rfl) ?_
          refine x_iload (pc := 241) (j := 0) (dK D_Law_law_2 27 rfl) rfl ?_
          refine gdE h ?_
          clear h
          intro hk110 h
          refine bnE h ?_
          clear h
          intro p109 e_p109 h
          obtain ⟨yp109, h9, e9⟩ := adE2 h
          clear h
          subst e9
          have h := h9
          clear h9
          have hk1 := Nat.le_trans (bd1 hb) hkt
          have hn1 := Nat.le_trans (bd2 hb) hnt
          replace hb := bdA hb
          refine x_callX (pc := 243) (As := [V 0, V v98]) (rest := [.ref r105, .ref 0]) (mc' := p109.2.1) (ms' := p109.2.2) (dK D_Law_law_2 28 rfl) Q_Law_490 sx_String_substring2 (fitK rfl) (isK_at (Z := (p108.1.1, p108.1.2)) (ci := 16) hk110) rfl (leK rfl) hk1 hn1 (tg_String_substring2 (inRk rfl) (Vn_in e_v98) e_p109) (kxR (fun h_p109 => ?_))
          refine rfE h ?_
          clear h
          intro r111 e_r111 h
          rw [e_r111]
          refine gdE h ?_
          clear h
          intro hk113 h
          refine bnE h ?_
          clear h
          intro p112 e_p112 h
          obtain ⟨yp112, h9, e9⟩ := adE2 h
          clear h
          subst e9
          have h := h9
          clear h9
          have hk1 := Nat.le_trans (bd1 hb) hkt
          have hn1 := Nat.le_trans (bd2 hb) hnt
          replace hb := bdA hb
          refine x_callX (pc := 246) (As := [.ref r111]) (rest := [.ref 0]) (mc' := p112.2.1) (ms' := p112.2.2) (dK D_Law_law_2 29 rfl) Q_Law_168 sx_SB_append (fitK rfl) (isK_at (Z := (p109.1.2.1, p109.1.2.2)) (ci := 15) hk113) rfl (leK rfl) hk1 hn1 (tg_SB_append  e_p112) (kxR (fun h_p112 => ?_))
          refine x_ldcSw (own := "FlatPlanLaw") (text := "?") (j := 23) rfl (dK D_Law_law_2 30 rfl) (List.mem_of_getElem? (i := 23) rfl) ?_
          refine rfE h ?_
          clear h
          intro r114 e_r114 h
          rw [e_r114]
          refine gdE h ?_
          clear h
          intro hk116 h
          refine bnE h ?_
          clear h
          intro p115 e_p115 h
          obtain ⟨yp115, h9, e9⟩ := adE2 h
          clear h
          subst e9
          have h := h9
          clear h9
          have hk1 := Nat.le_trans (bd1 hb) hkt
          have hn1 := Nat.le_trans (bd2 hb) hnt
          replace hb := bdA hb
          refine x_callX (pc := 252) (As := [.ref (XB + 23)]) (rest := [.ref 0]) (mc' := p115.2.1) (ms' := p115.2.2) (dK D_Law_law_2 31 rfl) Q_Law_168 sx_SB_append (fitK rfl) (isK_at (Z := (p112.1.2.1, p112.1.2.2)) (ci := 15) hk116) rfl (leK rfl) hk1 hn1 (tg_SB_append  e_p115) (kxR (fun h_p115 => ?_))
          refine x_aload (pc := 255) (j := 1) (dK D_Law_law_2 32 rfl) rfl ?_
          refine x_iload (pc := 257) (j := 0) (dK D_Law_law_2 33 rfl) rfl ?_
          refine gdE h ?_
          clear h
          intro hk118 h
          refine bnE h ?_
          clear h
          intro p117 e_p117 h
          obtain ⟨yp117, h9, e9⟩ := adE2 h
          clear h
          subst e9
          have h := h9
          clear h9
          have hk1 := Nat.le_trans (bd1 hb) hkt
          have hn1 := Nat.le_trans (bd2 hb) hnt
          replace hb := bdA hb
          refine x_callX (pc := 259) (As := [V v98]) (rest := [p115.1.1, .ref 0]) (mc' := p117.2.1) (ms' := p117.2.2) (dK D_Law_law_2 34 rfl) Q_Law_496 sx_String_substring (fitK rfl) (isK_at (Z := (p115.1.2.1, p115.1.2.2)) (ci := 16) hk118) rfl (by simp only [List.map_cons, List.map_nil, cato h_p115]; exact leK rfl) hk1 hn1 (tg_String_substring (Vn_in e_v98) e_p117) (kxR (fun h_p117 => ?_))
          refine rfE h ?_
          clear h
          intro r119 e_r119 h
          rw [e_r119]
          refine rfE h ?_
          clear h
          intro r120 e_r120 h
          rw [e_r120]
          refine gdE h ?_
          clear h
          intro hk122 h
          refine bnE h ?_
          clear h
          intro p121 e_p121 h
          obtain ⟨yp121, h9, e9⟩ := adE2 h
          clear h
          subst e9
          have h := h9
          clear h9
          have hk1 := Nat.le_trans (bd1 hb) hkt
          have hn1 := Nat.le_trans (bd2 hb) hnt
          replace hb := bdA hb
          refine x_callX (pc := 262) (As := [.ref r119]) (rest := [.ref 0]) (mc' := p121.2.1) (ms' := p121.2.2) (dK D_Law_law_2 35 rfl) Q_Law_168 sx_SB_append (fitK rfl) (isK_at (Z := (p117.1.2.1, p117.1.2.2)) (ci := 15) hk122) rfl (leK rfl) hk1 hn1 (tg_SB_append  e_p121) (kxR (fun h_p121 => ?_))
          refine rfE h ?_
          clear h
          intro r123 e_r123 h
          rw [e_r123]
          refine gdE h ?_
          clear h
          intro hk125 h
          refine bnE h ?_
          clear h
          intro p124 e_p124 h
          obtain ⟨yp124, h9, e9⟩ := adE2 h
          clear h
          subst e9
          have h := h9
          clear h9
          have hk1 := Nat.le_trans (bd1 hb) hkt
          have hn1 := Nat.le_trans (bd2 hb) hnt
          replace hb := bdA hb
          refine x_callX (pc := 265) (As := []) (rest := [.ref 0]) (mc' := p124.2.1) (ms' := p124.2.2) (dK D_Law_law_2 36 rfl) Q_Law_175 sx_SB_toString (fitK rfl) (isK_at (Z := (p121.1.2.1, p121.1.2.2)) (ci := 15) hk125) rfl (leK rfl) hk1 hn1 (tg_SB_toString  e_p124) (kxR (fun h_p124 => ?_))
          refine rfE h ?_
          clear h
          intro r126 e_r126 h
          rw [e_r126]
          refine bnE h ?_
          clear h
          intro p127 e_p127 h
          obtain ⟨yp127, h9, e9⟩ := adE2 h
          clear h
          subst e9
          have h := h9
          clear h9
          have hk1 := Nat.le_trans (bd1 hb) hkt
          have hn1 := Nat.le_trans (bd2 hb) hnt
          replace hb := bdA hb
          refine x_callS (pc := 268) (As := [.ref 0, .ref r126]) (rest := []) (mc' := p127.2.1) (ms' := p127.2.2) (dK D_Law_law_2 37 rfl) Q_Law_479 (fitK rfl) rfl (leK rfl) hk1 hn1 (tg_Law_input  e_p127) (kxU ?_)
          refine x_aloadn (pc := 271) (i0 := 1) (j := 5) (dK D_Law_law_2 38 rfl) rfl rfl ?_
          refine bnE h ?_
          clear h
          intro p128 e_p128 h
          refine x_callX (pc := 272) (As := []) (rest := []) (mc' := 0) (ms' := 0) (dK D_Law_law_2 39 rfl) Q_Law_483 sx_FP_load (fitK rfl) (isK_at (Z := (p127.1.1, p127.1.2)) (ci := 10) isK0) rfl (leK rfl) (Nat.le_trans (bdk hb) hkt) (Nat.le_trans (bdn hb) hnt) (clI (fun E => tf_FP_load (X := xz p127.1.2) xz_hc  e_p128)) (kxI' (fun h_p128 => ?_))
          refine wx_bipush (pc := 275) (dK D_Law_law_2 40 rfl) rfl ?_
          refine wx_icmp_ne (pc := 277) (t := 297) (dK D_Law_law_2 41 rfl) rfl h_p128 (inRk rfl) (fun hc133 => ?_) (fun hc133 => ?_)
          · replace h := ifN h hc133
            refine wx_iconst (pc := 297) (dK D_Law_law_3 0 rfl) ?_
            obtain rfl := Option.some.inj h
            exact wk_iretB (pc := 298) (b := false) (dK D_Law_law_3 1 rfl) rfl (Nat.le_trans (bdk hb) hkt) (Nat.le_trans (bdn hb) hnt) (hr (false, (p128.2, p127.1.2)) rfl)
          · replace h := ifP h hc133
            refine x_aloadn (pc := 280) (i0 := 1) (j := 5) (dK D_Law_law_2 42 rfl) rfl rfl ?_
            refine bnE h ?_
            clear h
            intro p129 e_p129 h
            refine x_callX (pc := 281) (As := []) (rest := []) (mc' := 0) (ms' := 0) (dK D_Law_law_2 43 rfl) Q_Law_467 sx_FP_errorPosition (fitK rfl) (isK_at (Z := (p128.2, p127.1.2)) (ci := 10) isK0) rfl (leK rfl) (Nat.le_trans (bdk hb) hkt) (Nat.le_trans (bdn hb) hnt) (clI (fun E => tf_FP_errorPosition (X := xz p127.1.2) xz_hc  e_p129)) (kxI' (fun h_p129 => ?_))
            refine x_iload (pc := 284) (j := 0) (dK D_Law_law_2 44 rfl) rfl ?_
            refine wx_icmp_gt (pc := 286) (t := 297) (dK D_Law_law_2 45 rfl) rfl h_p129 (Vn_in e_v98) (fun hc132 => ?_) (fun hc132 => ?_)
            · replace h := ifP h hc132
              refine wx_iconst (pc := 297) (dK D_Law_law_3 0 rfl) ?_
              obtain rfl := Option.some.inj h
              exact wk_iretB (pc := 298) (b := false) (dK D_Law_law_3 1 rfl) rfl (Nat.le_trans (bdk hb) hkt) (Nat.le_trans (bdn hb) hnt) (hr (false, (p128.2, p127.1.2)) rfl)
            · replace h := ifN h hc132
              refine x_aloadn (pc := 289) (i0 := 1) (j := 5) (dK D_Law_law_2 46 rfl) rfl rfl ?_
              refine bnE h ?_
              clear h
              intro p130 e_p130 h
              refine x_callX (pc := 290) (As := []) (rest := []) (mc' := 0) (ms' := 0) (dK D_Law_law_2 47 rfl) Q_Law_464 sx_FP_errorCode (fitK rfl) (isK_at (Z := (p128.2, p127.1.2)) (ci := 10) isK0) rfl (leK rfl) (Nat.le_trans (bdk hb) hkt) (Nat.le_trans (bdn hb) hnt) (clI (fun E => tf_FP_errorCode (X := xz p127.1.2) xz_hc  e_p130)) (kxI' (fun h_p130 => ?_))
              refine wx_iconst (pc := 293) (dK D_Law_law_2 48 rfl) ?_
              refine wx_icmp_ge (pc := 294) (t := 299) (dK D_Law_law_2 49 rfl) rfl h_p130 (inRk rfl) (fun hc131 => ?_) (fun hc131 => ?_)
              · replace h := ifP h hc131
                refine x_goto (pc := 299) (tgt := 415) (dK D_Law_law_3 2 rfl) rfl ?_
                refine x_weak (ls' := [(0, .ref (XB + 200)), (1, .ref 0), (2, .ref r86), (3, .ref c3), (4, V a4), (6, V a6), (7, V a7)]) (sbc 4 rfl (sbc 5 rfl (sbc 2 rfl (sbc 6 rfl (sbc 7 rfl (sbc 9 rfl (sbc 10 rfl sbn))))))) ?_
                exact tj2_Law_law_415_93 hkt hnt ih (.inr ⟨_, rfl⟩) ha4 ha6 ha7 h hb hx hr
              · replace h := ifN h hc131
                refine wx_iconst (pc := 297) (dK D_Law_law_3 0 rfl) ?_
                obtain rfl := Option.some.inj h
                exact wk_iretB (pc := 298) (b := false) (dK D_Law_law_3 1 rfl) rfl (Nat.le_trans (bdk hb) hkt) (Nat.le_trans (bdn hb) hnt) (hr (false, (p128.2, p127.1.2)) rfl)
        · replace h := ifN h hc134
          refine wx_iconst (pc := 228) (dK D_Law_law_2 19 rfl) ?_
          obtain rfl := Option.some.inj h
          exact wk_iretB (pc := 229) (b := false) (dK D_Law_law_2 20 rfl) rfl (Nat.le_trans (bdk hb) hkt) (Nat.le_trans (bdn hb) hnt) (hr (false, (p100.2, p99.1.2)) rfl)
def lb2_Law_law_93 (sc : SC) (c3 : Nat) (go : Value × Int × LZ → Option (((Bool × LZ) ⊕ (LZ)) × Nat × Nat)) (c2 : Value) (a4 : Int) (S : St) (L : List PC) : Option (((Bool × LZ) ⊕ (LZ)) × Nat × Nat) := if 40 ≤ a4 then (some (.inr (S, L), 0, 0)) else (nm (wr (1 + (4 * a4))) fun v22 => bnO (gn_Law_pick sc v22 S L) fun p23 => nm (wr (2 + (4 * a4))) fun v24 => bnO (gn_Law_pick sc v24 S L) fun p25 => nm (wr (3 + (4 * a4))) fun v26 => bnO (gn_Law_pick sc v26 S L) fun p27 => if a4 = 0 then (jf2_Law_law_150_93 sc c3 go c2 a4 p23 p25 p27 0 S L) else (nm (wr (p23.tmod 40)) fun v28 => jf2_Law_law_150_93 sc c3 go c2 a4 p23 p25 p27 v28 S L))
def lo2_Law_law_93 (sc : SC) (c3 : Nat) : Nat → Value × Int × LZ → Option (((Bool × LZ) ⊕ (LZ)) × Nat × Nat) := lp fun go p => lb2_Law_law_93 sc c3 go p.1 p.2.1 p.2.2.1 p.2.2.2
theorem tl2_Law_law_93 {sc : SC} {c3 : Nat} {K : Option Value → List PC → Prop} {mc ms kt nt : Nat} (hkt : kt ≤ mc) (hnt : nt ≤ ms) : ∀ (N : Nat) (a : Value × Int × LZ) (q : ((Bool × LZ) ⊕ (LZ)) × Nat × Nat), lo2_Law_law_93 sc c3 N a = some q → ∀ k n, Bd k n kt nt q → (a.1 = .null ∨ ∃ b, a.1 = .ref b) → inR a.2.1 → (∀ e, q.1 = .inr e → GX sc M_Law_law mc ms 498 [] [] (wz e) kt nt K) → (∀ r, q.1 = .inl r → K (some (V (bi r.1))) (wz r.2)) → GX sc M_Law_law mc ms 93 [(0, .ref (XB + 200)), (1, .ref 0), (2, a.1), (3, .ref c3), (4, V a.2.1)] [] (wz a.2.2) k n K := by
  refine lp_ind2 (P := fun (a : Value × Int × LZ) (q : ((Bool × LZ) ⊕ (LZ)) × Nat × Nat) => ∀ k n, Bd k n kt nt q → (a.1 = .null ∨ ∃ b, a.1 = .ref b) → inR a.2.1 → (∀ e, q.1 = .inr e → GX sc M_Law_law mc ms 498 [] [] (wz e) kt nt K) → (∀ r, q.1 = .inl r → K (some (V (bi r.1))) (wz r.2)) → GX sc M_Law_law mc ms 93 [(0, .ref (XB + 200)), (1, .ref 0), (2, a.1), (3, .ref c3), (4, V a.2.1)] [] (wz a.2.2) k n K) (fun go ih a q h => ?_)
  obtain ⟨c2, a4, ⟨S, L⟩⟩ := a
  intro k n hb hc2 ha4 hx hr
  show GX sc M_Law_law mc ms 93 [(0, .ref (XB + 200)), (1, .ref 0), (2, c2), (3, .ref c3), (4, V a4)] [] (wz (S, L)) k n K
  replace h : lb2_Law_law_93 sc c3 go c2 a4 S L = some q := h
  unfold lb2_Law_law_93 at h
  refine x_iload (pc := 93) (j := 4) (dK D_Law_law_0 47 rfl) rfl ?_
  refine wx_bipush (pc := 95) (dK D_Law_law_0 48 rfl) rfl ?_
  refine wx_icmp_ge (pc := 97) (t := 498) (dK D_Law_law_0 49 rfl) rfl ha4 (inRk rfl) (fun hc139 => ?_) (fun hc139 => ?_)
  · replace h := ifP h hc139
    obtain rfl := Option.some.inj h
    refine x_weak (ls' := []) sbn ?_
    refine x_room (bdk hb) (bdn hb) ?_
    exact hx (S, L) rfl
  · replace h := ifN h hc139
    refine x_aloadn (pc := 100) (i0 := 0) (j := 0) (dK D_Law_law_1 0 rfl) rfl rfl ?_
    refine wx_iconst (pc := 101) (dK D_Law_law_1 1 rfl) ?_
    refine wx_iconst (pc := 102) (dK D_Law_law_1 2 rfl) ?_
    refine x_iload (pc := 103) (j := 4) (dK D_Law_law_1 3 rfl) rfl ?_
    refine wx_imul (pc := 105) (dK D_Law_law_1 4 rfl) ?_
    refine wx_iadd (pc := 106) (dK D_Law_law_1 5 rfl) ?_
    refine nmE h ?_
    clear h
    intro v22 e_v22 h
    refine wtop e_v22 ?_
    refine bnE h ?_
    clear h
    intro p23 e_p23 h
    refine x_callS (pc := 107) (As := [.ref (XB + 200), V v22]) (rest := []) (mc' := 0) (ms' := 0) (dK D_Law_law_1 6 rfl) Q_Law_362 (fitK rfl) rfl (leK rfl) (Nat.le_trans (bdk hb) hkt) (Nat.le_trans (bdn hb) hnt) (tg_Law_pick (Vn_in e_v22) e_p23) (kxI' (fun h_p23 => ?_))
    refine x_istore (pc := 110) (ls2 := [(5, V p23), (0, .ref (XB + 200)), (1, .ref 0), (2, c2), (3, .ref c3), (4, V a4)]) (dK D_Law_law_1 7 rfl) (ltK rfl) rfl ?_
    refine x_aloadn (pc := 112) (i0 := 0) (j := 1) (dK D_Law_law_1 8 rfl) rfl rfl ?_
    refine wx_iconst (pc := 113) (dK D_Law_law_1 9 rfl) ?_
    refine wx_iconst (pc := 114) (dK D_Law_law_1 10 rfl) ?_
    refine x_iload (pc := 115) (j := 5) (dK D_Law_law_1 11 rfl) rfl ?_
    refine wx_imul (pc := 117) (dK D_Law_law_1 12 rfl) ?_
    refine wx_iadd (pc := 118) (dK D_Law_law_1 13 rfl) ?_
    refine nmE h ?_
    clear h
    intro v24 e_v24 h
    refine wtop e_v24 ?_
    refine bnE h ?_
    clear h
    intro p25 e_p25 h
    refine x_callS (pc := 119) (As := [.ref (XB + 200), V v24]) (rest := []) (mc' := 0) (ms' := 0) (dK D_Law_law_1 14 rfl) Q_Law_362 (fitK rfl) rfl (leK rfl) (Nat.le_trans (bdk hb) hkt) (Nat.le_trans (bdn hb) hnt) (tg_Law_pick (Vn_in e_v24) e_p25) (kxI' (fun h_p25 => ?_))
    refine x_istore (pc := 122) (ls2 := [(6, V p25), (5, V p23), (0, .ref (XB + 200)), (1, .ref 0), (2, c2), (3, .ref c3), (4, V a4)]) (dK D_Law_law_1 15 rfl) (ltK rfl) rfl ?_
    refine x_aloadn (pc := 124) (i0 := 0) (j := 2) (dK D_Law_law_1 16 rfl) rfl rfl ?_
    refine wx_iconst (pc := 125) (dK D_Law_law_1 17 rfl) ?_
    refine wx_iconst (pc := 126) (dK D_Law_law_1 18 rfl) ?_
    refine x_iload (pc := 127) (j := 6) (dK D_Law_law_1 19 rfl) rfl ?_
    refine wx_imul (pc := 129) (dK D_Law_law_1 20 rfl) ?_
    refine wx_iadd (pc := 130) (dK D_Law_law_1 21 rfl) ?_
    refine nmE h ?_
    clear h
    intro v26 e_v26 h
    refine wtop e_v26 ?_
    refine bnE h ?_
    clear h
    intro p27 e_p27 h
    refine x_callS (pc := 131) (As := [.ref (XB + 200), V v26]) (rest := []) (mc' := 0) (ms' := 0) (dK D_Law_law_1 22 rfl) Q_Law_362 (fitK rfl) rfl (leK rfl) (Nat.le_trans (bdk hb) hkt) (Nat.le_trans (bdn hb) hnt) (tg_Law_pick (Vn_in e_v26) e_p27) (kxI' (fun h_p27 => ?_))
    refine x_istore (pc := 134) (ls2 := [(7, V p27), (6, V p25), (5, V p23), (0, .ref (XB + 200)), (1, .ref 0), (2, c2), (3, .ref c3), (4, V a4)]) (dK D_Law_law_1 23 rfl) (ltK rfl) rfl ?_
    refine x_iload (pc := 136) (j := 7) (dK D_Law_law_1 24 rfl) rfl ?_
    refine wx_if_ne (pc := 138) (t := 145) (dK D_Law_law_1 25 rfl) rfl ha4 (fun hc138 => ?_) (fun hc138 => ?_)
    · replace h := ifN h hc138
      refine x_iload (pc := 145) (j := 2) (dK D_Law_law_1 28 rfl) rfl ?_
      refine wx_bipush (pc := 147) (dK D_Law_law_1 29 rfl) rfl ?_
      refine wx_irem (pc := 149) (dK D_Law_law_1 30 rfl) h_p23 (inRk rfl) (by decide) ?_
      refine nmE h ?_
      clear h
      intro v28 e_v28 h
      refine wtop e_v28 ?_
      refine x_weak (ls' := [(0, .ref (XB + 200)), (1, .ref 0), (2, c2), (3, .ref c3), (4, V a4), (5, V p23), (6, V p25), (7, V p27)]) (sbc 3 rfl (sbc 4 rfl (sbc 5 rfl (sbc 6 rfl (sbc 7 rfl (sbc 2 rfl (sbc 1 rfl (sbc 0 rfl sbn)))))))) ?_
      exact tj2_Law_law_150_93 hkt hnt ih hc2 ha4 h_p23 h_p25 h_p27 (Vn_in e_v28) h hb hx hr
    · replace h := ifP h hc138
      refine wx_iconst (pc := 141) (dK D_Law_law_1 26 rfl) ?_
      refine x_goto (pc := 142) (tgt := 150) (dK D_Law_law_1 27 rfl) rfl ?_
      refine x_weak (ls' := [(0, .ref (XB + 200)), (1, .ref 0), (2, c2), (3, .ref c3), (4, V a4), (5, V p23), (6, V p25), (7, V p27)]) (sbc 3 rfl (sbc 4 rfl (sbc 5 rfl (sbc 6 rfl (sbc 7 rfl (sbc 2 rfl (sbc 1 rfl (sbc 0 rfl sbn)))))))) ?_
      exact tj2_Law_law_150_93 hkt hnt ih hc2 ha4 h_p23 h_p25 h_p27 (inRk rfl) h hb hx hr
def gn_Law_law (sc : SC) (S : St) (L : List PC) : Option ((Bool × LZ) × Nat × Nat) := if L.length < 900000000 then adC 1 10 (nw L (12, dfl 12) fun r2 L3 => bnO (gn_LP_init r2 S L3) fun p5 => adC p5.2.1 p5.2.2 (if p5.1.2.length < 900000000 then adC 1 3 (nw p5.1.2 (13, dfl 13) fun r7 L8 => bnO (gn_AL_init r7 p5.1.1 L8) fun p10 => adC p10.2.1 p10.2.2 (bnO (gn_Law_same r2 0 p10.1.1 p10.1.2) fun p11 => adC p11.2.1 p11.2.2 (if p11.1.1 = true then (bnO (gn_Law_pages r2 p11.1.2.1 p11.1.2.2) fun p13 => adC p13.2.1 p13.2.2 (if p13.1.1 = true then (bnO (fn_FP_errorCode 0 p13.1.2.1) fun p15 => if p15 = 0 then (bnO (fn_FP_errorPosition 0 p13.1.2.1) fun p16 => if p16 = (-1) then (bnO (fn_FP_undo 0 p13.1.2.1) fun p17 => if p17.1 = true then (some ((false, (p17.2, p13.1.2.2)), 0, 0)) else (bnO (fn_FP_describedByte 0 99 p17.2) fun p19 => if p19 = (-1) then (bnO (fn_FP_tightest 0 p17.2) fun p20 => if p20 = (-1) then (bnO (fn_FP_matching 0 p17.2) fun p21 => if p21.1 = 0 then (bnT (lo2_Law_law_93 sc r7 FU (.ref r2, 0, (p21.2, p13.1.2.2))) (fun r141 => some ((r141.1, (r141.2.1, r141.2.2)), 0, 0)) fun e142 => some ((true, (e142.1, e142.2)), 0, 0)) else (some ((false, (p21.2, p13.1.2.2)), 0, 0))) else (some ((false, (p17.2, p13.1.2.2)), 0, 0))) else (some ((false, (p17.2, p13.1.2.2)), 0, 0)))) else (some ((false, (p13.1.2.1, p13.1.2.2)), 0, 0))) else (some ((false, (p13.1.2.1, p13.1.2.2)), 0, 0))) else (some ((false, (p13.1.2.1, p13.1.2.2)), 0, 0)))) else (some ((false, (p11.1.2.1, p11.1.2.2)), 0, 0))))) else none)) else none
theorem te_Law_law {sc : SC} {S : St} {L : List PC} {q : (Bool × LZ) × Nat × Nat} (h : gn_Law_law sc S L = some q) {mc ms k n : Nat} (hb : Bd k n mc ms q) : GX sc M_Law_law mc ms 8 [(1, .ref 0), (0, .ref (XB + 200))] [] (wz (S, L)) k n (KXB q.1.1 q.1.2) := by
  unfold gn_Law_law at h
  refine gdE h ?_
  clear h
  intro hl1 h
  obtain ⟨y4, h9, e9⟩ := adE2 h
  clear h
  subst e9
  have h := h9
  clear h9
  refine nwE h ?_
  clear h
  intro r2 L3 e_r2 e_L3 h
  have hk1 := bd1 hb
  have hn1 := bd2 hb
  replace hb := bdA hb
  refine wn_new (Z := (S, L)) (pc := 8) (ci := 12) (N := 10) e_r2 e_L3 hl1 rfl (dK D_Law_law_0 4 rfl) (ltK rfl) q_732 q_733 q_14 hk1 hn1 ?_
  refine x_dup (pc := 11) (dK D_Law_law_0 5 rfl) rfl ?_
  refine bnE h ?_
  clear h
  intro p5 e_p5 h
  obtain ⟨yp5, h9, e9⟩ := adE2 h
  clear h
  subst e9
  have h := h9
  clear h9
  have hk1 := bd1 hb
  have hn1 := bd2 hb
  replace hb := bdA hb
  refine x_callIN (pc := 12) (As := []) (rest := [.ref r2]) (mc' := p5.2.1) (ms' := p5.2.2) (dK D_Law_law_0 6 rfl) Q_Law_458 (fitK rfl) rfl (leK rfl) hk1 hn1 (tg_LP_init  e_p5) (kxU ?_)
  refine x_astoren (pc := 15) (i0 := 2) (ls2 := [(2, .ref r2), (1, .ref 0), (0, .ref (XB + 200))]) (dK D_Law_law_0 7 rfl) rfl (ltK rfl) rfl ?_
  refine gdE h ?_
  clear h
  intro hl6 h
  obtain ⟨y9, h9, e9⟩ := adE2 h
  clear h
  subst e9
  have h := h9
  clear h9
  refine nwE h ?_
  clear h
  intro r7 L8 e_r7 e_L8 h
  have hk1 := bd1 hb
  have hn1 := bd2 hb
  replace hb := bdA hb
  refine wn_new (Z := (p5.1.1, p5.1.2)) (pc := 16) (ci := 13) (N := 3) e_r7 e_L8 hl6 rfl (dK D_Law_law_0 8 rfl) (ltK rfl) q_1757 q_739 q_17 hk1 hn1 ?_
  refine x_dup (pc := 19) (dK D_Law_law_0 9 rfl) rfl ?_
  refine bnE h ?_
  clear h
  intro p10 e_p10 h
  obtain ⟨yp10, h9, e9⟩ := adE2 h
  clear h
  subst e9
  have h := h9
  clear h9
  have hk1 := bd1 hb
  have hn1 := bd2 hb
  replace hb := bdA hb
  refine x_callI (pc := 20) (As := []) (rest := [.ref r7]) (mc' := p10.2.1) (ms' := p10.2.2) (dK D_Law_law_0 10 rfl) Q_Law_324 (fitK rfl) rfl (leK rfl) hk1 hn1 (tg_AL_init  e_p10) (kxU ?_)
  refine x_astoren (pc := 23) (i0 := 3) (ls2 := [(3, .ref r7), (2, .ref r2), (1, .ref 0), (0, .ref (XB + 200))]) (dK D_Law_law_0 11 rfl) rfl (ltK rfl) rfl ?_
  refine x_aloadn (pc := 24) (i0 := 1) (j := 2) (dK D_Law_law_0 12 rfl) rfl rfl ?_
  refine x_aloadn (pc := 25) (i0 := 2) (j := 1) (dK D_Law_law_0 13 rfl) rfl rfl ?_
  refine wx_iconst (pc := 26) (dK D_Law_law_0 14 rfl) ?_
  refine bnE h ?_
  clear h
  intro p11 e_p11 h
  obtain ⟨yp11, h9, e9⟩ := adE2 h
  clear h
  subst e9
  have h := h9
  clear h9
  have hk1 := bd1 hb
  have hn1 := bd2 hb
  replace hb := bdA hb
  refine x_callS (pc := 27) (As := [.ref 0, .ref r2, V 0]) (rest := []) (mc' := p11.2.1) (ms' := p11.2.2) (dK D_Law_law_0 15 rfl) Q_Law_459 (fitK rfl) rfl (leK rfl) hk1 hn1 (tg_Law_same (inRk rfl) e_p11) (kxB' ?_)
  refine wx_ifB_eq (pc := 30) (b := p11.1.1) (t := 88) (dK D_Law_law_0 16 rfl) rfl (fun hc12 => ?_) (fun hc12 => ?_)
  · replace h := ifP h hc12
    refine x_aloadn (pc := 33) (i0 := 1) (j := 2) (dK D_Law_law_0 17 rfl) rfl rfl ?_
    refine x_aloadn (pc := 34) (i0 := 2) (j := 1) (dK D_Law_law_0 18 rfl) rfl rfl ?_
    refine bnE h ?_
    clear h
    intro p13 e_p13 h
    obtain ⟨yp13, h9, e9⟩ := adE2 h
    clear h
    subst e9
    have h := h9
    clear h9
    have hk1 := bd1 hb
    have hn1 := bd2 hb
    replace hb := bdA hb
    refine x_callS (pc := 35) (As := [.ref 0, .ref r2]) (rest := []) (mc' := p13.2.1) (ms' := p13.2.2) (dK D_Law_law_0 19 rfl) Q_Law_462 (fitK rfl) rfl (leK rfl) hk1 hn1 (tg_Law_pages  e_p13) (kxB' ?_)
    refine wx_ifB_eq (pc := 38) (b := p13.1.1) (t := 88) (dK D_Law_law_0 20 rfl) rfl (fun hc14 => ?_) (fun hc14 => ?_)
    · replace h := ifP h hc14
      refine x_aloadn (pc := 41) (i0 := 1) (j := 2) (dK D_Law_law_0 21 rfl) rfl rfl ?_
      refine bnE h ?_
      clear h
      intro p15 e_p15 h
      refine x_callX (pc := 42) (As := []) (rest := []) (mc' := 0) (ms' := 0) (dK D_Law_law_0 22 rfl) Q_Law_464 sx_FP_errorCode (fitK rfl) (isK_at (Z := (p13.1.2.1, p13.1.2.2)) (ci := 10) isK0) rfl (leK rfl) (bdk hb) (bdn hb) (clI (fun E => tf_FP_errorCode (X := xz p13.1.2.2) xz_hc  e_p15)) (kxI' (fun h_p15 => ?_))
      refine wx_if_ne (pc := 45) (t := 88) (dK D_Law_law_0 23 rfl) rfl h_p15 (fun hc147 => ?_) (fun hc147 => ?_)
      · replace h := ifN h hc147
        refine wx_iconst (pc := 88) (dK D_Law_law_0 43 rfl) ?_
        obtain rfl := Option.some.inj h
        exact wk_iretB (pc := 89) (b := false) (dK D_Law_law_0 44 rfl) rfl (bdk hb) (bdn hb) ⟨rfl, rfl⟩
      · replace h := ifP h hc147
        refine x_aloadn (pc := 48) (i0 := 1) (j := 2) (dK D_Law_law_0 24 rfl) rfl rfl ?_
        refine bnE h ?_
        clear h
        intro p16 e_p16 h
        refine x_callX (pc := 49) (As := []) (rest := []) (mc' := 0) (ms' := 0) (dK D_Law_law_0 25 rfl) Q_Law_467 sx_FP_errorPosition (fitK rfl) (isK_at (Z := (p13.1.2.1, p13.1.2.2)) (ci := 10) isK0) rfl (leK rfl) (bdk hb) (bdn hb) (clI (fun E => tf_FP_errorPosition (X := xz p13.1.2.2) xz_hc  e_p16)) (kxI' (fun h_p16 => ?_))
        refine wx_iconst (pc := 52) (dK D_Law_law_0 26 rfl) ?_
        refine wx_icmp_ne (pc := 53) (t := 88) (dK D_Law_law_0 27 rfl) rfl h_p16 (inRk rfl) (fun hc146 => ?_) (fun hc146 => ?_)
        · replace h := ifN h hc146
          refine wx_iconst (pc := 88) (dK D_Law_law_0 43 rfl) ?_
          obtain rfl := Option.some.inj h
          exact wk_iretB (pc := 89) (b := false) (dK D_Law_law_0 44 rfl) rfl (bdk hb) (bdn hb) ⟨rfl, rfl⟩
        · replace h := ifP h hc146
          refine x_aloadn (pc := 56) (i0 := 1) (j := 2) (dK D_Law_law_0 28 rfl) rfl rfl ?_
          refine bnE h ?_
          clear h
          intro p17 e_p17 h
          refine x_callX (pc := 57) (As := []) (rest := []) (mc' := 0) (ms' := 0) (dK D_Law_law_0 29 rfl) Q_Law_470 sx_FP_undo (fitK rfl) (isK_at (Z := (p13.1.2.1, p13.1.2.2)) (ci := 10) isK0) rfl (leK rfl) (bdk hb) (bdn hb) (clB (fun E => tf_FP_undo (X := xz p13.1.2.2) xz_hc  e_p17)) (kxB' ?_)
          refine wx_ifB_ne (pc := 60) (b := p17.1) (t := 88) (dK D_Law_law_0 30 rfl) rfl (fun hc18 => ?_) (fun hc18 => ?_)
          · replace h := ifP h hc18
            refine wx_iconst (pc := 88) (dK D_Law_law_0 43 rfl) ?_
            obtain rfl := Option.some.inj h
            exact wk_iretB (pc := 89) (b := false) (dK D_Law_law_0 44 rfl) rfl (bdk hb) (bdn hb) ⟨rfl, rfl⟩
          · replace h := ifN h hc18
            refine x_aloadn (pc := 63) (i0 := 1) (j := 2) (dK D_Law_law_0 31 rfl) rfl rfl ?_
            refine wx_bipush (pc := 64) (dK D_Law_law_0 32 rfl) rfl ?_
            refine bnE h ?_
            clear h
            intro p19 e_p19 h
            refine x_callX (pc := 66) (As := [V 99]) (rest := []) (mc' := 0) (ms' := 0) (dK D_Law_law_0 33 rfl) Q_Law_202 sx_FP_describedByte (fitK rfl) (isK_at (Z := (p17.2, p13.1.2.2)) (ci := 10) isK0) rfl (leK rfl) (bdk hb) (bdn hb) (clI (fun E => tf_FP_describedByte (X := xz p13.1.2.2) xz_hc (inRk rfl) e_p19)) (kxI' (fun h_p19 => ?_))
            refine wx_iconst (pc := 69) (dK D_Law_law_0 34 rfl) ?_
            refine wx_icmp_ne (pc := 70) (t := 88) (dK D_Law_law_0 35 rfl) rfl h_p19 (inRk rfl) (fun hc145 => ?_) (fun hc145 => ?_)
            · replace h := ifN h hc145
              refine wx_iconst (pc := 88) (dK D_Law_law_0 43 rfl) ?_
              obtain rfl := Option.some.inj h
              exact wk_iretB (pc := 89) (b := false) (dK D_Law_law_0 44 rfl) rfl (bdk hb) (bdn hb) ⟨rfl, rfl⟩
            · replace h := ifP h hc145
              refine x_aloadn (pc := 73) (i0 := 1) (j := 2) (dK D_Law_law_0 36 rfl) rfl rfl ?_
              refine bnE h ?_
              clear h
              intro p20 e_p20 h
              refine x_callX (pc := 74) (As := []) (rest := []) (mc' := 0) (ms' := 0) (dK D_Law_law_0 37 rfl) Q_Law_275 sx_FP_tightest (fitK rfl) (isK_at (Z := (p17.2, p13.1.2.2)) (ci := 10) isK0) rfl (leK rfl) (bdk hb) (bdn hb) (clI (fun E => tf_FP_tightest (X := xz p13.1.2.2) xz_hc  e_p20)) (kxI' (fun h_p20 => ?_))
              refine wx_iconst (pc := 77) (dK D_Law_law_0 38 rfl) ?_
              refine wx_icmp_ne (pc := 78) (t := 88) (dK D_Law_law_0 39 rfl) rfl h_p20 (inRk rfl) (fun hc144 => ?_) (fun hc144 => ?_)
              · replace h := ifN h hc144
                refine wx_iconst (pc := 88) (dK D_Law_law_0 43 rfl) ?_
                obtain rfl := Option.some.inj h
                exact wk_iretB (pc := 89) (b := false) (dK D_Law_law_0 44 rfl) rfl (bdk hb) (bdn hb) ⟨rfl, rfl⟩
              · replace h := ifP h hc144
                refine x_aloadn (pc := 81) (i0 := 1) (j := 2) (dK D_Law_law_0 40 rfl) rfl rfl ?_
                refine bnE h ?_
                clear h
                intro p21 e_p21 h
                refine x_callX (pc := 82) (As := []) (rest := []) (mc' := 0) (ms' := 0) (dK D_Law_law_0 41 rfl) Q_Law_282 sx_FP_matching (fitK rfl) (isK_at (Z := (p17.2, p13.1.2.2)) (ci := 10) isK0) rfl (leK rfl) (bdk hb) (bdn hb) (clI (fun E => tf_FP_matching (X := xz p13.1.2.2) xz_hc  e_p21)) (kxI' (fun h_p21 => ?_))
                refine wx_if_eq (pc := 85) (t := 90) (dK D_Law_law_0 42 rfl) rfl h_p21 (fun hc143 => ?_) (fun hc143 => ?_)
                · replace h := ifP h hc143
                  refine wx_iconst (pc := 90) (dK D_Law_law_0 45 rfl) ?_
                  refine x_istore (pc := 91) (ls2 := [(4, V 0), (3, .ref r7), (2, .ref r2), (1, .ref 0), (0, .ref (XB + 200))]) (dK D_Law_law_0 46 rfl) (ltK rfl) rfl ?_
                  refine bnTE h ?_ ?_
                  · clear h
                    intro p140 r141 yp140 e_p140 f_p140 h e9
                    subst e9
                    have hk1 := bd1 hb
                    have hn1 := bd2 hb
                    replace hb := bdA hb
                    refine x_weak (ls' := [(0, .ref (XB + 200)), (1, .ref 0), (2, .ref r2), (3, .ref r7), (4, V 0)]) (sbc 4 rfl (sbc 3 rfl (sbc 2 rfl (sbc 1 rfl (sbc 0 rfl sbn))))) ?_
                    refine tl2_Law_law_93  hk1 hn1 FU _ _ e_p140 _ _ ⟨Nat.le_refl _, Nat.le_refl _⟩ (.inr ⟨_, rfl⟩) (inRk rfl) (fun _ g_ => by rw [f_p140] at g_; exact nomatch g_) (fun r_ g_  => ?_)
                    obtain rfl := Sum.inl.inj (f_p140.symm.trans g_)
                    obtain rfl := Option.some.inj h
                    exact ⟨rfl, rfl⟩
                  · clear h
                    intro p140 e142 yp140 e_p140 f_p140 h e9
                    subst e9
                    have hk1 := bd1 hb
                    have hn1 := bd2 hb
                    replace hb := bdA hb
                    refine x_weak (ls' := [(0, .ref (XB + 200)), (1, .ref 0), (2, .ref r2), (3, .ref r7), (4, V 0)]) (sbc 4 rfl (sbc 3 rfl (sbc 2 rfl (sbc 1 rfl (sbc 0 rfl sbn))))) ?_
                    refine tl2_Law_law_93  hk1 hn1 FU _ _ e_p140 _ _ ⟨Nat.le_refl _, Nat.le_refl _⟩ (.inr ⟨_, rfl⟩) (inRk rfl) (fun e_ g_  => ?_) (fun _ g_ => by rw [f_p140] at g_; exact nomatch g_)
                    obtain rfl := Sum.inr.inj (f_p140.symm.trans g_)
                    refine wx_iconst (pc := 498) (dK D_Law_law_5 4 rfl) ?_
                    obtain rfl := Option.some.inj h
                    exact wk_iretB (pc := 499) (b := true) (dK D_Law_law_5 5 rfl) rfl (bdk hb) (bdn hb) ⟨rfl, rfl⟩
                · replace h := ifN h hc143
                  refine wx_iconst (pc := 88) (dK D_Law_law_0 43 rfl) ?_
                  obtain rfl := Option.some.inj h
                  exact wk_iretB (pc := 89) (b := false) (dK D_Law_law_0 44 rfl) rfl (bdk hb) (bdn hb) ⟨rfl, rfl⟩
    · replace h := ifN h hc14
      refine wx_iconst (pc := 88) (dK D_Law_law_0 43 rfl) ?_
      obtain rfl := Option.some.inj h
      exact wk_iretB (pc := 89) (b := false) (dK D_Law_law_0 44 rfl) rfl (bdk hb) (bdn hb) ⟨rfl, rfl⟩
  · replace h := ifN h hc12
    refine wx_iconst (pc := 88) (dK D_Law_law_0 43 rfl) ?_
    obtain rfl := Option.some.inj h
    exact wk_iretB (pc := 89) (b := false) (dK D_Law_law_0 44 rfl) rfl (bdk hb) (bdn hb) ⟨rfl, rfl⟩
