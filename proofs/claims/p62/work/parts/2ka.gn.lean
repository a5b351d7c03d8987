theorem q_758 : (Cond.sameField "java/util/ArrayList" "java/util/AbstractList" "modCount" "I") ∈ gtbl := gt4 (i := 38) rfl rfl
theorem q_974 : (Cond.sameMethod "[Z" "java/lang/Object" "clone" "()Ljava/lang/Object;") ∈ gtbl := gt5 (i := 14) rfl rfl
theorem q_981 : (Cond.sameMethod "[I" "java/lang/Object" "clone" "()Ljava/lang/Object;") ∈ gtbl := gt5 (i := 21) rfl rfl
theorem q_1304 : (Cond.superclass "java/lang/StringBuilder" "java/lang/AbstractStringBuilder") ∈ gtbl := gt6 (i := 104) rfl rfl
theorem q_1331 : (Cond.sameMethod "[B" "java/lang/Object" "clone" "()Ljava/lang/Object;") ∈ gtbl := gt6 (i := 131) rfl rfl
theorem q_1434 : (Cond.sameMethod "java/lang/AbstractStringBuilder" "java/lang/AbstractStringBuilder" "length" "()I") ∈ gtbl := gt6 (i := 234) rfl rfl
theorem q_2088 : (Cond.sameMethod "java/lang/AbstractStringBuilder" "java/lang/AbstractStringBuilder" "append" "(Ljava/lang/String;)Ljava/lang/AbstractStringBuilder;") ∈ gtbl := gt9 (i := 168) rfl rfl
theorem q_2095 : (Cond.sameMethod "java/lang/AbstractStringBuilder" "java/lang/AbstractStringBuilder" "append" "(I)Ljava/lang/AbstractStringBuilder;") ∈ gtbl := gt9 (i := 175) rfl rfl
def gn_AbC_init (c0 : Nat) (S : St) (L : List PC) : Option (Unit) := some ()
theorem te_AbC_init {sc : SC} {c0 : Nat} {S : St} {L : List PC} {q : Unit} (h : gn_AbC_init c0 S L = some q) {mc ms k n : Nat} (hk0 : k ≤ mc) (hn0 : n ≤ ms) : GX sc M_AbC_init mc ms 0 [(0, .ref c0)] [] (wz (S, L)) k n (KXU (S, L)) := by
  unfold gn_AbC_init at h
  refine x_aloadn (pc := 0) (i0 := 0) (j := 0) (dK D_AbC_init 0 rfl) rfl rfl ?_
  refine x_objinit (pc := 1) (dK D_AbC_init 1 rfl) q_749 (leK rfl) (leK rfl) (leK rfl) ?_
  exact wk_ret (pc := 4) (dK D_AbC_init 2 rfl) rfl hk0 hn0 ⟨rfl, rfl⟩
theorem tg_AbC_init {sc : SC} {c0 : Nat} {S : St} {L : List PC} {q : Unit} (h : gn_AbC_init c0 S L = some q) : EvX sc M_AbC_init [.ref c0] (wz (S, L)) 0 0 (KXU (S, L)) := EvX.of pn2_AbC rfl (leK rfl) (te_AbC_init  h (Nat.le_refl _) (Nat.le_refl _))
def gn_AbL_init (c0 : Nat) (S : St) (L : List PC) : Option ((LZ) × Nat × Nat) := bnO (gn_AbC_init c0 S L) fun p1 => bnO (pf L c0 13 2 (V 0)) fun L2 => some ((S, L2), 0, 0)
theorem te_AbL_init {sc : SC} {c0 : Nat} {S : St} {L : List PC} {q : (LZ) × Nat × Nat} (h : gn_AbL_init c0 S L = some q) {mc ms k n : Nat} (hb : Bd k n mc ms q) : GX sc M_AbL_init mc ms 0 [(0, .ref c0)] [] (wz (S, L)) k n (KXU q.1) := by
  unfold gn_AbL_init at h
  refine x_aloadn (pc := 0) (i0 := 0) (j := 0) (dK D_AbL_init 0 rfl) rfl rfl ?_
  refine bnE h ?_
  clear h
  intro p1 e_p1 h
  refine x_callI (pc := 1) (As := []) (rest := []) (mc' := 0) (ms' := 0) (dK D_AbL_init 1 rfl) Q_AbL_1 (fitK rfl) rfl (leK rfl) (bdk hb) (bdn hb) (tg_AbC_init  e_p1) (kxU ?_)
  refine x_aloadn (pc := 4) (i0 := 0) (j := 0) (dK D_AbL_init 2 rfl) rfl rfl ?_
  refine wx_iconst (pc := 5) (dK D_AbL_init 3 rfl) ?_
  refine bnE h ?_
  clear h
  intro L2 e_L2 h
  refine wx_put (Z := (S, L)) (pc := 6) (ci := 13) (f := 2) e_L2 (dK D_AbL_init 4 rfl) q_756 (ltK rfl) (ltK rfl) rfl okInt ?_
  obtain rfl := Option.some.inj h
  exact wk_ret (pc := 9) (dK D_AbL_init 5 rfl) rfl (bdk hb) (bdn hb) ⟨rfl, rfl⟩
theorem tg_AbL_init {sc : SC} {c0 : Nat} {S : St} {L : List PC} {q : (LZ) × Nat × Nat} (h : gn_AbL_init c0 S L = some q) : EvX sc M_AbL_init [.ref c0] (wz (S, L)) q.2.1 q.2.2 (KXU q.1) := EvX.of pn2_AbL rfl (leK rfl) (te_AbL_init  h ⟨Nat.le_of_eq (Nat.zero_add _), Nat.le_of_eq (Nat.zero_add _)⟩)
def gn_AL_init (c0 : Nat) (S : St) (L : List PC) : Option ((LZ) × Nat × Nat) := bnO (gn_AbL_init c0 S L) fun p1 => adC p1.2.1 p1.2.2 (bnO (pf p1.1.2 c0 13 0 (.ref (XB + 300 + 300))) fun L2 => some ((p1.1.1, L2), 0, 0))
theorem te_AL_init {sc : SC} {c0 : Nat} {S : St} {L : List PC} {q : (LZ) × Nat × Nat} (h : gn_AL_init c0 S L = some q) {mc ms k n : Nat} (hb : Bd k n mc ms q) : GX sc M_AL_init mc ms 0 [(0, .ref c0)] [] (wz (S, L)) k n (KXU q.1) := by
  unfold gn_AL_init at h
  refine x_aloadn (pc := 0) (i0 := 0) (j := 0) (dK D_AL_init 0 rfl) rfl rfl ?_
  refine bnE h ?_
  clear h
  intro p1 e_p1 h
  obtain ⟨yp1, h9, e9⟩ := adE2 h
  clear h
  subst e9
  have h := h9
  clear h9
  have hk1 := bd1 hb
  have hn1 := bd2 hb
  replace hb := bdA hb
  refine x_callI (pc := 1) (As := []) (rest := []) (mc' := p1.2.1) (ms' := p1.2.2) (dK D_AL_init 1 rfl) Q_AL_1 (fitK rfl) rfl (leK rfl) hk1 hn1 (tg_AbL_init  e_p1) (kxU ?_)
  refine x_aloadn (pc := 4) (i0 := 0) (j := 0) (dK D_AL_init 2 rfl) rfl rfl ?_
  refine x_gs_empty (pc := 5) (dK D_AL_init 3 rfl) q_750 ?_
  refine bnE h ?_
  clear h
  intro L2 e_L2 h
  refine wx_put (Z := (p1.1.1, p1.1.2)) (pc := 8) (ci := 13) (f := 0) e_L2 (dK D_AL_init 4 rfl) q_752 (ltK rfl) (ltK rfl) rfl (okArr (.inr ⟨_, rfl⟩)) ?_
  obtain rfl := Option.some.inj h
  exact wk_ret (pc := 11) (dK D_AL_init 5 rfl) rfl (bdk hb) (bdn hb) ⟨rfl, rfl⟩
theorem tg_AL_init {sc : SC} {c0 : Nat} {S : St} {L : List PC} {q : (LZ) × Nat × Nat} (h : gn_AL_init c0 S L = some q) : EvX sc M_AL_init [.ref c0] (wz (S, L)) q.2.1 q.2.2 (KXU q.1) := EvX.of pn2_AL rfl (leK rfl) (te_AL_init  h ⟨Nat.le_of_eq (Nat.zero_add _), Nat.le_of_eq (Nat.zero_add _)⟩)
def gn_LP_init (c0 : Nat) (S : St) (L : List PC) : Option ((LZ) × Nat × Nat) := bnO (pf L c0 12 0 (V 1)) fun L1 => bnO (pf L1 c0 12 1 (V 16)) fun L2 => if L2.length < 900000000 then adC 1 3 (nw L2 (13, dfl 13) fun r4 L5 => bnO (gn_AL_init r4 S L5) fun p7 => adC p7.2.1 p7.2.2 (bnO (pf p7.1.2 c0 12 4 (.ref r4)) fun L8 => if L8.length < 900000000 then adC 1 3 (nw L8 (13, dfl 13) fun r10 L11 => bnO (gn_AL_init r10 p7.1.1 L11) fun p13 => adC p13.2.1 p13.2.2 (bnO (pf p13.1.2 c0 12 5 (.ref r10)) fun L14 => if L14.length < 900000000 then adC 1 3 (nw L14 (13, dfl 13) fun r16 L17 => bnO (gn_AL_init r16 p13.1.1 L17) fun p19 => adC p19.2.1 p19.2.2 (bnO (pf p19.1.2 c0 12 6 (.ref r16)) fun L20 => if (0 : Int) ≤ 8 ∧ (8 : Int) ≤ 16384 then (if L20.length < 900000000 then adC 1 (8 : Int).toNat (nw L20 (102, List.replicate (8 : Int).toNat (.int 0)) fun r24 L25 => bnO (pf L25 c0 12 7 (.ref r24)) fun L26 => if (0 : Int) ≤ 8 ∧ (8 : Int) ≤ 16384 then (if L26.length < 900000000 then adC 1 (8 : Int).toNat (nw L26 (102, List.replicate (8 : Int).toNat (.int 0)) fun r30 L31 => bnO (pf L31 c0 12 8 (.ref r30)) fun L32 => if (0 : Int) ≤ 8 ∧ (8 : Int) ≤ 16384 then (if L32.length < 900000000 then adC 1 (8 : Int).toNat (nw L32 (100, List.replicate (8 : Int).toNat (.int 0)) fun r36 L37 => bnO (ast L37 100 r36 0 (V (-1))) fun L38 => bnO (ast L38 100 r36 1 (V (-1))) fun L39 => bnO (ast L39 100 r36 2 (V (-1))) fun L40 => bnO (ast L40 100 r36 3 (V (-1))) fun L41 => bnO (ast L41 100 r36 4 (V (-1))) fun L42 => bnO (ast L42 100 r36 5 (V (-1))) fun L43 => bnO (ast L43 100 r36 6 (V (-1))) fun L44 => bnO (ast L44 100 r36 7 (V (-1))) fun L45 => bnO (pf L45 c0 12 9 (.ref r36)) fun L46 => some ((p19.1.1, L46), 0, 0)) else none) else none) else none) else none) else none) else none)) else none)) else none)) else none
theorem te_LP_init {sc : SC} {c0 : Nat} {S : St} {L : List PC} {q : (LZ) × Nat × Nat} (h : gn_LP_init c0 S L = some q) {mc ms k n : Nat} (hb : Bd k n mc ms q) : GX sc M_LP_init mc ms 0 [(0, .ref c0)] [] (wz (S, L)) k n (KXU q.1) := by
  unfold gn_LP_init at h
  refine x_aloadn (pc := 0) (i0 := 0) (j := 0) (dK D_LP_init_0 0 rfl) rfl rfl ?_
  refine x_objinit (pc := 1) (dK D_LP_init_0 1 rfl) q_737 (leK rfl) (leK rfl) (leK rfl) ?_
  refine x_aloadn (pc := 4) (i0 := 0) (j := 0) (dK D_LP_init_0 2 rfl) rfl rfl ?_
  refine wx_iconst (pc := 5) (dK D_LP_init_0 3 rfl) ?_
  refine bnE h ?_
  clear h
  intro L1 e_L1 h
  refine wx_put (Z := (S, L)) (pc := 6) (ci := 12) (f := 0) e_L1 (dK D_LP_init_0 4 rfl) q_767 (ltK rfl) (ltK rfl) rfl okInt ?_
  refine x_aloadn (pc := 9) (i0 := 0) (j := 0) (dK D_LP_init_0 5 rfl) rfl rfl ?_
  refine wx_bipush (pc := 10) (dK D_LP_init_0 6 rfl) rfl ?_
  refine bnE h ?_
  clear h
  intro L2 e_L2 h
  refine wx_put (Z := (S, L1)) (pc := 12) (ci := 12) (f := 1) e_L2 (dK D_LP_init_0 7 rfl) q_769 (ltK rfl) (ltK rfl) rfl okInt ?_
  refine x_aloadn (pc := 15) (i0 := 0) (j := 0) (dK D_LP_init_0 8 rfl) rfl rfl ?_
  refine gdE h ?_
  clear h
  intro hl3 h
  obtain ⟨y6, h9, e9⟩ := adE2 h
  clear h
  subst e9
  have h := h9
  clear h9
  refine nwE h ?_
  clear h
  intro r4 L5 e_r4 e_L5 h
  have hk1 := bd1 hb
  have hn1 := bd2 hb
  replace hb := bdA hb
  refine wn_new (Z := (S, L2)) (pc := 16) (ci := 13) (N := 3) e_r4 e_L5 hl3 rfl (dK D_LP_init_0 9 rfl) (ltK rfl) q_738 q_739 q_17 hk1 hn1 ?_
  refine x_dup (pc := 19) (dK D_LP_init_0 10 rfl) rfl ?_
  refine bnE h ?_
  clear h
  intro p7 e_p7 h
  obtain ⟨yp7, h9, e9⟩ := adE2 h
  clear h
  subst e9
  have h := h9
  clear h9
  have hk1 := bd1 hb
  have hn1 := bd2 hb
  replace hb := bdA hb
  refine x_callI (pc := 20) (As := []) (rest := [.ref r4, .ref c0]) (mc' := p7.2.1) (ms' := p7.2.2) (dK D_LP_init_0 11 rfl) Q_LP_20 (fitK rfl) rfl (leK rfl) hk1 hn1 (tg_AL_init  e_p7) (kxU ?_)
  refine bnE h ?_
  clear h
  intro L8 e_L8 h
  refine wx_put (Z := (p7.1.1, p7.1.2)) (pc := 23) (ci := 12) (f := 4) e_L8 (dK D_LP_init_0 12 rfl) q_775 (ltK rfl) (ltK rfl) rfl (okObj (.inr ⟨_, rfl⟩)) ?_
  refine x_aloadn (pc := 26) (i0 := 0) (j := 0) (dK D_LP_init_0 13 rfl) rfl rfl ?_
  refine gdE h ?_
  clear h
  intro hl9 h
  obtain ⟨y12, h9, e9⟩ := adE2 h
  clear h
  subst e9
  have h := h9
  clear h9
  refine nwE h ?_
  clear h
  intro r10 L11 e_r10 e_L11 h
  have hk1 := bd1 hb
  have hn1 := bd2 hb
  replace hb := bdA hb
  refine wn_new (Z := (p7.1.1, L8)) (pc := 27) (ci := 13) (N := 3) e_r10 e_L11 hl9 rfl (dK D_LP_init_0 14 rfl) (ltK rfl) q_738 q_739 q_17 hk1 hn1 ?_
  refine x_dup (pc := 30) (dK D_LP_init_0 15 rfl) rfl ?_
  refine bnE h ?_
  clear h
  intro p13 e_p13 h
  obtain ⟨yp13, h9, e9⟩ := adE2 h
  clear h
  subst e9
  have h := h9
  clear h9
  have hk1 := bd1 hb
  have hn1 := bd2 hb
  replace hb := bdA hb
  refine x_callI (pc := 31) (As := []) (rest := [.ref r10, .ref c0]) (mc' := p13.2.1) (ms' := p13.2.2) (dK D_LP_init_0 16 rfl) Q_LP_20 (fitK rfl) rfl (leK rfl) hk1 hn1 (tg_AL_init  e_p13) (kxU ?_)
  refine bnE h ?_
  clear h
  intro L14 e_L14 h
  refine wx_put (Z := (p13.1.1, p13.1.2)) (pc := 34) (ci := 12) (f := 5) e_L14 (dK D_LP_init_0 17 rfl) q_777 (ltK rfl) (ltK rfl) rfl (okObj (.inr ⟨_, rfl⟩)) ?_
  refine x_aloadn (pc := 37) (i0 := 0) (j := 0) (dK D_LP_init_0 18 rfl) rfl rfl ?_
  refine gdE h ?_
  clear h
  intro hl15 h
  obtain ⟨y18, h9, e9⟩ := adE2 h
  clear h
  subst e9
  have h := h9
  clear h9
  refine nwE h ?_
  clear h
  intro r16 L17 e_r16 e_L17 h
  have hk1 := bd1 hb
  have hn1 := bd2 hb
  replace hb := bdA hb
  refine wn_new (Z := (p13.1.1, L14)) (pc := 38) (ci := 13) (N := 3) e_r16 e_L17 hl15 rfl (dK D_LP_init_0 19 rfl) (ltK rfl) q_738 q_739 q_17 hk1 hn1 ?_
  refine x_dup (pc := 41) (dK D_LP_init_0 20 rfl) rfl ?_
  refine bnE h ?_
  clear h
  intro p19 e_p19 h
  obtain ⟨yp19, h9, e9⟩ := adE2 h
  clear h
  subst e9
  have h := h9
  clear h9
  have hk1 := bd1 hb
  have hn1 := bd2 hb
  replace hb := bdA hb
  refine x_callI (pc := 42) (As := []) (rest := [.ref r16, .ref c0]) (mc' := p19.2.1) (ms' := p19.2.2) (dK D_LP_init_0 21 rfl) Q_LP_20 (fitK rfl) rfl (leK rfl) hk1 hn1 (tg_AL_init  e_p19) (kxU ?_)
  refine bnE h ?_
  clear h
  intro L20 e_L20 h
  refine wx_put (Z := (p19.1.1, p19.1.2)) (pc := 45) (ci := 12) (f := 6) e_L20 (dK D_LP_init_0 22 rfl) q_779 (ltK rfl) (ltK rfl) rfl (okObj (.inr ⟨_, rfl⟩)) ?_
  refine x_aloadn (pc := 48) (i0 := 0) (j := 0) (dK D_LP_init_0 23 rfl) rfl rfl ?_
  refine wx_bipush (pc := 49) (dK D_LP_init_0 24 rfl) rfl ?_
  refine gdE h ?_
  clear h
  intro hz21 h
  refine gdE h ?_
  clear h
  intro hl22 h
  obtain ⟨y23, h9, e9⟩ := adE2 h
  clear h
  subst e9
  have h := h9
  clear h9
  refine nwE h ?_
  clear h
  intro r24 L25 e_r24 e_L25 h
  have hk1 := bd1 hb
  have hn1 := bd2 hb
  replace hb := bdA hb
  refine wn_newa_bool (Z := (p19.1.1, L20)) (pc := 51) e_r24 e_L25 hl22 (inRk rfl) hz21 (dK D_LP_init_0 25 rfl) q_808 hk1 hn1 ?_
  refine bnE h ?_
  clear h
  intro L26 e_L26 h
  refine wx_put (Z := (p19.1.1, L25)) (pc := 53) (ci := 12) (f := 7) e_L26 (dK D_LP_init_0 26 rfl) q_781 (ltK rfl) (ltK rfl) rfl (okArr (.inr ⟨_, rfl⟩)) ?_
  refine x_aloadn (pc := 56) (i0 := 0) (j := 0) (dK D_LP_init_0 27 rfl) rfl rfl ?_
  refine wx_bipush (pc := 57) (dK D_LP_init_0 28 rfl) rfl ?_
  refine gdE h ?_
  clear h
  intro hz27 h
  refine gdE h ?_
  clear h
  intro hl28 h
  obtain ⟨y29, h9, e9⟩ := adE2 h
  clear h
  subst e9
  have h := h9
  clear h9
  refine nwE h ?_
  clear h
  intro r30 L31 e_r30 e_L31 h
  have hk1 := bd1 hb
  have hn1 := bd2 hb
  replace hb := bdA hb
  refine wn_newa_bool (Z := (p19.1.1, L26)) (pc := 59) e_r30 e_L31 hl28 (inRk rfl) hz27 (dK D_LP_init_0 29 rfl) q_808 hk1 hn1 ?_
  refine bnE h ?_
  clear h
  intro L32 e_L32 h
  refine wx_put (Z := (p19.1.1, L31)) (pc := 61) (ci := 12) (f := 8) e_L32 (dK D_LP_init_0 30 rfl) q_783 (ltK rfl) (ltK rfl) rfl (okArr (.inr ⟨_, rfl⟩)) ?_
  refine x_aloadn (pc := 64) (i0 := 0) (j := 0) (dK D_LP_init_0 31 rfl) rfl rfl ?_
  refine wx_bipush (pc := 65) (dK D_LP_init_0 32 rfl) rfl ?_
  refine gdE h ?_
  clear h
  intro hz33 h
  refine gdE h ?_
  clear h
  intro hl34 h
  obtain ⟨y35, h9, e9⟩ := adE2 h
  clear h
  subst e9
  have h := h9
  clear h9
  refine nwE h ?_
  clear h
  intro r36 L37 e_r36 e_L37 h
  have hk1 := bd1 hb
  have hn1 := bd2 hb
  replace hb := bdA hb
  refine wn_newa_int (Z := (p19.1.1, L32)) (pc := 67) e_r36 e_L37 hl34 (inRk rfl) hz33 (dK D_LP_init_0 33 rfl) q_68 hk1 hn1 ?_
  refine x_dup (pc := 69) (dK D_LP_init_0 34 rfl) rfl ?_
  refine wx_iconst (pc := 70) (dK D_LP_init_0 35 rfl) ?_
  refine wx_iconst (pc := 71) (dK D_LP_init_0 36 rfl) ?_
  refine bnE h ?_
  clear h
  intro L38 e_L38 h
  refine wx_iast (Z := (p19.1.1, L37)) (pc := 72) (z := (-1)) e_L38 (inRk rfl) (dK D_LP_init_0 37 rfl) ?_
  refine x_dup (pc := 73) (dK D_LP_init_0 38 rfl) rfl ?_
  refine wx_iconst (pc := 74) (dK D_LP_init_0 39 rfl) ?_
  refine wx_iconst (pc := 75) (dK D_LP_init_0 40 rfl) ?_
  refine bnE h ?_
  clear h
  intro L39 e_L39 h
  refine wx_iast (Z := (p19.1.1, L38)) (pc := 76) (z := (-1)) e_L39 (inRk rfl) (dK D_LP_init_0 41 rfl) ?_
  refine x_dup (pc := 77) (dK D_LP_init_0 42 rfl) rfl ?_
  refine wx_iconst (pc := 78) (dK D_LP_init_0 43 rfl) ?_
  refine wx_iconst (pc := 79) (dK D_LP_init_0 44 rfl) ?_
  refine bnE h ?_
  clear h
  intro L40 e_L40 h
  refine wx_iast (Z := (p19.1.1, L39)) (pc := 80) (z := (-1)) e_L40 (inRk rfl) (dK D_LP_init_0 45 rfl) ?_
  refine x_dup (pc := 81) (dK D_LP_init_0 46 rfl) rfl ?_
  refine wx_iconst (pc := 82) (dK D_LP_init_0 47 rfl) ?_
  refine wx_iconst (pc := 83) (dK D_LP_init_0 48 rfl) ?_
  refine bnE h ?_
  clear h
  intro L41 e_L41 h
  refine wx_iast (Z := (p19.1.1, L40)) (pc := 84) (z := (-1)) e_L41 (inRk rfl) (dK D_LP_init_0 49 rfl) ?_
  refine x_dup (pc := 85) (dK D_LP_init_1 0 rfl) rfl ?_
  refine wx_iconst (pc := 86) (dK D_LP_init_1 1 rfl) ?_
  refine wx_iconst (pc := 87) (dK D_LP_init_1 2 rfl) ?_
  refine bnE h ?_
  clear h
  intro L42 e_L42 h
  refine wx_iast (Z := (p19.1.1, L41)) (pc := 88) (z := (-1)) e_L42 (inRk rfl) (dK D_LP_init_1 3 rfl) ?_
  refine x_dup (pc := 89) (dK D_LP_init_1 4 rfl) rfl ?_
  refine wx_iconst (pc := 90) (dK D_LP_init_1 5 rfl) ?_
  refine wx_iconst (pc := 91) (dK D_LP_init_1 6 rfl) ?_
  refine bnE h ?_
  clear h
  intro L43 e_L43 h
  refine wx_iast (Z := (p19.1.1, L42)) (pc := 92) (z := (-1)) e_L43 (inRk rfl) (dK D_LP_init_1 7 rfl) ?_
  refine x_dup (pc := 93) (dK D_LP_init_1 8 rfl) rfl ?_
  refine wx_bipush (pc := 94) (dK D_LP_init_1 9 rfl) rfl ?_
  refine wx_iconst (pc := 96) (dK D_LP_init_1 10 rfl) ?_
  refine bnE h ?_
  clear h
  intro L44 e_L44 h
  refine wx_iast (Z := (p19.1.1, L43)) (pc := 97) (z := (-1)) e_L44 (inRk rfl) (dK D_LP_init_1 11 rfl) ?_
  refine x_dup (pc := 98) (dK D_LP_init_1 12 rfl) rfl ?_
  refine wx_bipush (pc := 99) (dK D_LP_init_1 13 rfl) rfl ?_
  refine wx_iconst (pc := 101) (dK D_LP_init_1 14 rfl) ?_
  refine bnE h ?_
  clear h
  intro L45 e_L45 h
  refine wx_iast (Z := (p19.1.1, L44)) (pc := 102) (z := (-1)) e_L45 (inRk rfl) (dK D_LP_init_1 15 rfl) ?_
  refine bnE h ?_
  clear h
  intro L46 e_L46 h
  refine wx_put (Z := (p19.1.1, L45)) (pc := 103) (ci := 12) (f := 9) e_L46 (dK D_LP_init_1 16 rfl) q_785 (ltK rfl) (ltK rfl) rfl (okArr (.inr ⟨_, rfl⟩)) ?_
  obtain rfl := Option.some.inj h
  exact wk_ret (pc := 106) (dK D_LP_init_1 17 rfl) rfl (bdk hb) (bdn hb) ⟨rfl, rfl⟩
theorem tg_LP_init {sc : SC} {c0 : Nat} {S : St} {L : List PC} {q : (LZ) × Nat × Nat} (h : gn_LP_init c0 S L = some q) : EvX sc M_LP_init [.ref c0] (wz (S, L)) q.2.1 q.2.2 (KXU q.1) := EvX.of pn2_LP rfl (leK rfl) (te_LP_init  h ⟨Nat.le_of_eq (Nat.zero_add _), Nat.le_of_eq (Nat.zero_add _)⟩)
def gn_Itr_init (c0 : Nat) (c1 : Nat) (S : St) (L : List PC) : Option ((LZ) × Nat × Nat) := bnO (pf L c0 14 3 (.ref c1)) fun L1 => bnO (pf L1 c0 14 1 (V (-1))) fun L2 => bnO (gfV L2 c0 14 3) fun v3 => rfB v3 fun r4 => bnO (gfI L2 r4 13 2) fun v5 => bnO (pf L2 c0 14 2 (V v5)) fun L6 => some ((S, L6), 0, 0)
theorem te_Itr_init {sc : SC} {c0 : Nat} {c1 : Nat} {S : St} {L : List PC} {q : (LZ) × Nat × Nat} (h : gn_Itr_init c0 c1 S L = some q) {mc ms k n : Nat} (hb : Bd k n mc ms q) : GX sc M_Itr_init mc ms 0 [(0, .ref c0), (1, .ref c1)] [] (wz (S, L)) k n (KXU q.1) := by
  unfold gn_Itr_init at h
  refine x_aloadn (pc := 0) (i0 := 0) (j := 0) (dK D_Itr_init 0 rfl) rfl rfl ?_
  refine x_aloadn (pc := 1) (i0 := 1) (j := 1) (dK D_Itr_init 1 rfl) rfl rfl ?_
  refine bnE h ?_
  clear h
  intro L1 e_L1 h
  refine wx_putF (Z := (S, L)) (pc := 2) (ci := 14) (f := 3) e_L1 (dK D_Itr_init 2 rfl) q_828 (ltK rfl) (ltK rfl) rfl rfl rfl (okObj (.inr ⟨_, rfl⟩)) ?_
  refine x_aloadn (pc := 5) (i0 := 0) (j := 0) (dK D_Itr_init 3 rfl) rfl rfl ?_
  refine x_objinit (pc := 6) (dK D_Itr_init 4 rfl) q_824 (leK rfl) (leK rfl) (leK rfl) ?_
  refine x_aloadn (pc := 9) (i0 := 0) (j := 0) (dK D_Itr_init 5 rfl) rfl rfl ?_
  refine wx_iconst (pc := 10) (dK D_Itr_init 6 rfl) ?_
  refine bnE h ?_
  clear h
  intro L2 e_L2 h
  refine wx_put (Z := (S, L1)) (pc := 11) (ci := 14) (f := 1) e_L2 (dK D_Itr_init 7 rfl) q_826 (ltK rfl) (ltK rfl) rfl okInt ?_
  refine x_aloadn (pc := 14) (i0 := 0) (j := 0) (dK D_Itr_init 8 rfl) rfl rfl ?_
  refine x_aloadn (pc := 15) (i0 := 0) (j := 0) (dK D_Itr_init 9 rfl) rfl rfl ?_
  refine bnE h ?_
  clear h
  intro v3 e_v3 h
  refine wx_getV (pc := 16) (ci := 14) (f := 3) e_v3 (dK D_Itr_init 10 rfl) q_828 (ltK rfl) (ltK rfl) (fun hv3 => ?_)
  refine rfE h ?_
  clear h
  intro r4 e_r4 h
  rw [e_r4]
  refine bnE h ?_
  clear h
  intro v5 e_v5 h
  refine wx_getIR (pc := 19) (f := 2) e_v5 (dK D_Itr_init 11 rfl) q_757 q_758 (ltK rfl) ?_
  refine bnE h ?_
  clear h
  intro L6 e_L6 h
  refine wx_put (Z := (S, L2)) (pc := 22) (ci := 14) (f := 2) e_L6 (dK D_Itr_init 12 rfl) q_827 (ltK rfl) (ltK rfl) rfl okInt ?_
  obtain rfl := Option.some.inj h
  exact wk_ret (pc := 25) (dK D_Itr_init 13 rfl) rfl (bdk hb) (bdn hb) ⟨rfl, rfl⟩
theorem tg_Itr_init {sc : SC} {c0 : Nat} {c1 : Nat} {S : St} {L : List PC} {q : (LZ) × Nat × Nat} (h : gn_Itr_init c0 c1 S L = some q) : EvX sc M_Itr_init [.ref c0, .ref c1] (wz (S, L)) q.2.1 q.2.2 (KXU q.1) := EvX.of pn2_Itr rfl (leK rfl) (te_Itr_init  h ⟨Nat.le_of_eq (Nat.zero_add _), Nat.le_of_eq (Nat.zero_add _)⟩)
def gn_AL_iterator (c0 : Nat) (S : St) (L : List PC) : Option ((Value × LZ) × Nat × Nat) := if L.length < 900000000 then adC 1 4 (nw L (14, dfl 14) fun r2 L3 => bnO (gn_Itr_init r2 c0 S L3) fun p5 => adC p5.2.1 p5.2.2 (some (((.ref r2), (p5.1.1, p5.1.2)), 0, 0))) else none
theorem te_AL_iterator {sc : SC} {c0 : Nat} {S : St} {L : List PC} {q : (Value × LZ) × Nat × Nat} (h : gn_AL_iterator c0 S L = some q) {mc ms k n : Nat} (hb : Bd k n mc ms q) : GX sc M_AL_iterator mc ms 0 [(0, .ref c0)] [] (wz (S, L)) k n (KXR q.1.1 q.1.2) := by
  unfold gn_AL_iterator at h
  refine gdE h ?_
  clear h
  intro hl1 h
  obtain ⟨y4, h9, e9⟩ := adE2 h
  clear h
  subst e9
  have h := h9
  clear h9
  refine nwE h ?_
  clear h
  intro r2 L3 e_r2 e_L3 h
  have hk1 := bd1 hb
  have hn1 := bd2 hb
  replace hb := bdA hb
  refine wn_new (Z := (S, L)) (pc := 0) (ci := 14) (N := 4) e_r2 e_L3 hl1 rfl (dK D_AL_iterator 0 rfl) (ltK rfl) q_819 q_820 q_36 hk1 hn1 ?_
  refine x_dup (pc := 3) (dK D_AL_iterator 1 rfl) rfl ?_
  refine x_aloadn (pc := 4) (i0 := 0) (j := 0) (dK D_AL_iterator 2 rfl) rfl rfl ?_
  refine bnE h ?_
  clear h
  intro p5 e_p5 h
  obtain ⟨yp5, h9, e9⟩ := adE2 h
  clear h
  subst e9
  have h := h9
  clear h9
  have hk1 := bd1 hb
  have hn1 := bd2 hb
  replace hb := bdA hb
  refine x_callI (pc := 5) (As := [.ref c0]) (rest := [.ref r2]) (mc' := p5.2.1) (ms' := p5.2.2) (dK D_AL_iterator 3 rfl) Q_AL_269 (fitK rfl) rfl (leK rfl) hk1 hn1 (tg_Itr_init  e_p5) (kxU ?_)
  obtain rfl := Option.some.inj h
  exact wk_aret (pc := 8) (.inr ⟨_, rfl⟩) (dK D_AL_iterator 4 rfl) rfl (by first | exact .inl ⟨_, rfl⟩ | exact .inr ⟨_, rfl⟩) (bdk hb) (bdn hb) ⟨rfl, (.inr ⟨_, rfl⟩), rfl⟩
theorem tg_AL_iterator {sc : SC} {c0 : Nat} {S : St} {L : List PC} {q : (Value × LZ) × Nat × Nat} (h : gn_AL_iterator c0 S L = some q) : EvX sc M_AL_iterator [.ref c0] (wz (S, L)) q.2.1 q.2.2 (KXR q.1.1 q.1.2) := EvX.of pn2_AL rfl (leK rfl) (te_AL_iterator  h ⟨Nat.le_of_eq (Nat.zero_add _), Nat.le_of_eq (Nat.zero_add _)⟩)
def gn_Itr_hasNext (c0 : Nat) (S : St) (L : List PC) : Option (Bool) := bnO (gfI L c0 14 0) fun v1 => bnO (gfV L c0 14 3) fun v2 => rfB v2 fun r3 => bnO (gfI L r3 13 1) fun v4 => if v1 = v4 then (some false) else (some true)
theorem te_Itr_hasNext {sc : SC} {c0 : Nat} {S : St} {L : List PC} {q : Bool} (h : gn_Itr_hasNext c0 S L = some q) {mc ms k n : Nat} (hk0 : k ≤ mc) (hn0 : n ≤ ms) : GX sc M_Itr_hasNext mc ms 0 [(0, .ref c0)] [] (wz (S, L)) k n (KXB q (S, L)) := by
  unfold gn_Itr_hasNext at h
  refine x_aloadn (pc := 0) (i0 := 0) (j := 0) (dK D_Itr_hasNext 0 rfl) rfl rfl ?_
  refine bnE h ?_
  clear h
  intro v1 e_v1 h
  refine wx_getI (pc := 1) (ci := 14) (f := 0) e_v1 (dK D_Itr_hasNext 1 rfl) q_825 (ltK rfl) (ltK rfl) ?_
  refine x_aloadn (pc := 4) (i0 := 0) (j := 0) (dK D_Itr_hasNext 2 rfl) rfl rfl ?_
  refine bnE h ?_
  clear h
  intro v2 e_v2 h
  refine wx_getV (pc := 5) (ci := 14) (f := 3) e_v2 (dK D_Itr_hasNext 3 rfl) q_828 (ltK rfl) (ltK rfl) (fun hv2 => ?_)
  refine rfE h ?_
  clear h
  intro r3 e_r3 h
  rw [e_r3]
  refine bnE h ?_
  clear h
  intro v4 e_v4 h
  refine wx_getSz (pc := 8) rfl e_v4 (dK D_Itr_hasNext 4 rfl) ?_
  refine wx_icmp_eq (pc := 11) (t := 18) (dK D_Itr_hasNext 5 rfl) rfl (vI_at e_v1).2 (vI_at e_v4).2 (fun hc5 => ?_) (fun hc5 => ?_)
  · replace h := ifP h hc5
    refine wx_iconst (pc := 18) (dK D_Itr_hasNext 8 rfl) ?_
    obtain rfl := Option.some.inj h
    exact wk_iretB (pc := 19) (b := false) (dK D_Itr_hasNext 9 rfl) rfl hk0 hn0 ⟨rfl, rfl⟩
  · replace h := ifN h hc5
    refine wx_iconst (pc := 14) (dK D_Itr_hasNext 6 rfl) ?_
    refine x_goto (pc := 15) (tgt := 19) (dK D_Itr_hasNext 7 rfl) rfl ?_
    obtain rfl := Option.some.inj h
    exact wk_iretB (pc := 19) (b := true) (dK D_Itr_hasNext 9 rfl) rfl hk0 hn0 ⟨rfl, rfl⟩
theorem tg_Itr_hasNext {sc : SC} {c0 : Nat} {S : St} {L : List PC} {q : Bool} (h : gn_Itr_hasNext c0 S L = some q) : EvX sc M_Itr_hasNext [.ref c0] (wz (S, L)) 0 0 (KXB q (S, L)) := EvX.of pn2_Itr rfl (leK rfl) (te_Itr_hasNext  h (Nat.le_refl _) (Nat.le_refl _))
def gn_Itr_checkForComodification (c0 : Nat) (S : St) (L : List PC) : Option (Unit) := bnO (gfV L c0 14 3) fun v1 => rfB v1 fun r2 => bnO (gfI L r2 13 2) fun v3 => bnO (gfI L c0 14 2) fun v4 => if v3 = v4 then (some ()) else none
theorem te_Itr_checkForComodification {sc : SC} {c0 : Nat} {S : St} {L : List PC} {q : Unit} (h : gn_Itr_checkForComodification c0 S L = some q) {mc ms k n : Nat} (hk0 : k ≤ mc) (hn0 : n ≤ ms) : GX sc M_Itr_checkForComodification mc ms 0 [(0, .ref c0)] [] (wz (S, L)) k n (KXU (S, L)) := by
  unfold gn_Itr_checkForComodification at h
  refine x_aloadn (pc := 0) (i0 := 0) (j := 0) (dK D_Itr_checkForComodification 0 rfl) rfl rfl ?_
  refine bnE h ?_
  clear h
  intro v1 e_v1 h
  refine wx_getV (pc := 1) (ci := 14) (f := 3) e_v1 (dK D_Itr_checkForComodification 1 rfl) q_828 (ltK rfl) (ltK rfl) (fun hv1 => ?_)
  refine rfE h ?_
  clear h
  intro r2 e_r2 h
  rw [e_r2]
  refine bnE h ?_
  clear h
  intro v3 e_v3 h
  refine wx_getIR (pc := 4) (f := 2) e_v3 (dK D_Itr_checkForComodification 2 rfl) q_757 q_758 (ltK rfl) ?_
  refine x_aloadn (pc := 7) (i0 := 0) (j := 0) (dK D_Itr_checkForComodification 3 rfl) rfl rfl ?_
  refine bnE h ?_
  clear h
  intro v4 e_v4 h
  refine wx_getI (pc := 8) (ci := 14) (f := 2) e_v4 (dK D_Itr_checkForComodification 4 rfl) q_827 (ltK rfl) (ltK rfl) ?_
  refine wx_icmp_eq (pc := 11) (t := 22) (dK D_Itr_checkForComodification 5 rfl) rfl (vI_at e_v3).2 (vI_at e_v4).2 (fun hc5 => ?_) (fun hc5 => ?_)
  · replace h := ifP h hc5
    exact wk_ret (pc := 22) (dK D_Itr_checkForComodification 10 rfl) rfl hk0 hn0 ⟨rfl, rfl⟩
  · replace h := ifN h hc5
    exact nomatch h
theorem tg_Itr_checkForComodification {sc : SC} {c0 : Nat} {S : St} {L : List PC} {q : Unit} (h : gn_Itr_checkForComodification c0 S L = some q) : EvX sc M_Itr_checkForComodification [.ref c0] (wz (S, L)) 0 0 (KXU (S, L)) := EvX.of pn2_Itr rfl (leK rfl) (te_Itr_checkForComodification  h (Nat.le_refl _) (Nat.le_refl _))
def gn_Itr_next (c0 : Nat) (S : St) (L : List PC) : Option ((Value × LZ) × Nat × Nat) := if isK L c0 14 = true then (bnO (gn_Itr_checkForComodification c0 S L) fun p1 => bnO (gfI L c0 14 0) fun v3 => bnO (gfV L c0 14 3) fun v4 => rfB v4 fun r5 => bnO (gfI L r5 13 1) fun v6 => if v3 < v6 then (bnO (gfV L c0 14 3) fun v7 => rfB v7 fun r8 => bnO (gfV L r8 13 0) fun v9 => rfB v9 fun r10 => bnO (alm L r10) fun v11 => if v3 < v11 then (nm (wr (v3 + 1)) fun v12 => bnO (pf L c0 14 0 (V v12)) fun L13 => bnO (pf L13 c0 14 1 (V v3)) fun L14 => bnO (alq L14 r10 v3) fun v15 => some ((v15, (S, L14)), 0, 0)) else none) else none) else none
theorem te_Itr_next {sc : SC} {c0 : Nat} {S : St} {L : List PC} {q : (Value × LZ) × Nat × Nat} (h : gn_Itr_next c0 S L = some q) {mc ms k n : Nat} (hb : Bd k n mc ms q) : GX sc M_Itr_next mc ms 0 [(0, .ref c0)] [] (wz (S, L)) k n (KXR q.1.1 q.1.2) := by
  unfold gn_Itr_next at h
  refine x_aloadn (pc := 0) (i0 := 0) (j := 0) (dK D_Itr_next 0 rfl) rfl rfl ?_
  refine gdE h ?_
  clear h
  intro hk2 h
  refine bnE h ?_
  clear h
  intro p1 e_p1 h
  refine x_callX (pc := 1) (As := []) (rest := []) (mc' := 0) (ms' := 0) (dK D_Itr_next 1 rfl) Q_Itr_31 sx_Itr_checkForComodification (fitK rfl) (isK_at (Z := (S, L)) (ci := 14) hk2) rfl (leK rfl) (bdk hb) (bdn hb) (tg_Itr_checkForComodification  e_p1) (kxU ?_)
  refine x_aloadn (pc := 4) (i0 := 0) (j := 0) (dK D_Itr_next 2 rfl) rfl rfl ?_
  refine bnE h ?_
  clear h
  intro v3 e_v3 h
  refine wx_getI (pc := 5) (ci := 14) (f := 0) e_v3 (dK D_Itr_next 3 rfl) q_825 (ltK rfl) (ltK rfl) ?_
  refine x_istoren (pc := 8) (i0 := 1) (ls2 := [(1, V v3), (0, .ref c0)]) (dK D_Itr_next 4 rfl) rfl (ltK rfl) rfl ?_
  refine x_iloadn (pc := 9) (i0 := 1) (j := 0) (dK D_Itr_next 5 rfl) rfl rfl ?_
  refine x_aloadn (pc := 10) (i0 := 0) (j := 1) (dK D_Itr_next 6 rfl) rfl rfl ?_
  refine bnE h ?_
  clear h
  intro v4 e_v4 h
  refine wx_getV (pc := 11) (ci := 14) (f := 3) e_v4 (dK D_Itr_next 7 rfl) q_828 (ltK rfl) (ltK rfl) (fun hv4 => ?_)
  refine rfE h ?_
  clear h
  intro r5 e_r5 h
  rw [e_r5]
  refine bnE h ?_
  clear h
  intro v6 e_v6 h
  refine wx_getSz (pc := 14) rfl e_v6 (dK D_Itr_next 8 rfl) ?_
  refine wx_icmp_lt (pc := 17) (t := 28) (dK D_Itr_next 9 rfl) rfl (vI_at e_v3).2 (vI_at e_v6).2 (fun hc17 => ?_) (fun hc17 => ?_)
  · replace h := ifP h hc17
    refine x_aloadn (pc := 28) (i0 := 0) (j := 1) (dK D_Itr_next 14 rfl) rfl rfl ?_
    refine bnE h ?_
    clear h
    intro v7 e_v7 h
    refine wx_getV (pc := 29) (ci := 14) (f := 3) e_v7 (dK D_Itr_next 15 rfl) q_828 (ltK rfl) (ltK rfl) (fun hv7 => ?_)
    refine rfE h ?_
    clear h
    intro r8 e_r8 h
    rw [e_r8]
    refine bnE h ?_
    clear h
    intro v9 e_v9 h
    refine wx_getV (pc := 32) (ci := 13) (f := 0) e_v9 (dK D_Itr_next 16 rfl) q_753 (ltK rfl) (ltK rfl) (fun hv9 => ?_)
    refine x_astorenV (pc := 35) (i0 := 2) (ls2 := [(2, v9), (1, V v3), (0, .ref c0)]) hv9 (dK D_Itr_next 17 rfl) rfl (ltK rfl) rfl ?_
    refine x_iloadn (pc := 36) (i0 := 1) (j := 1) (dK D_Itr_next 18 rfl) rfl rfl ?_
    refine x_aloadnV (pc := 37) (i0 := 2) (j := 0) hv9 (dK D_Itr_next 19 rfl) rfl rfl ?_
    refine rfE h ?_
    clear h
    intro r10 e_r10 h
    rw [e_r10]
    refine bnE h ?_
    clear h
    intro v11 e_v11 h
    refine wx_alm (pc := 38) e_v11 (dK D_Itr_next 20 rfl) (fun i_v11 => ?_)
    refine wx_icmp_lt (pc := 39) (t := 50) (dK D_Itr_next 21 rfl) rfl (vI_at e_v3).2 i_v11 (fun hc16 => ?_) (fun hc16 => ?_)
    · replace h := ifP h hc16
      refine x_aloadn (pc := 50) (i0 := 0) (j := 2) (dK D_Itr_next 26 rfl) rfl rfl ?_
      refine x_iloadn (pc := 51) (i0 := 1) (j := 1) (dK D_Itr_next 27 rfl) rfl rfl ?_
      refine wx_iconst (pc := 52) (dK D_Itr_next 28 rfl) ?_
      refine wx_iadd (pc := 53) (dK D_Itr_next 29 rfl) ?_
      refine nmE h ?_
      clear h
      intro v12 e_v12 h
      refine wtop e_v12 ?_
      refine bnE h ?_
      clear h
      intro L13 e_L13 h
      refine wx_put (Z := (S, L)) (pc := 54) (ci := 14) (f := 0) e_L13 (dK D_Itr_next 30 rfl) q_825 (ltK rfl) (ltK rfl) rfl okInt ?_
      refine x_aloadn (pc := 57) (i0 := 2) (j := 0) (dK D_Itr_next 31 rfl) rfl rfl ?_
      refine x_aloadn (pc := 58) (i0 := 0) (j := 2) (dK D_Itr_next 32 rfl) rfl rfl ?_
      refine x_iloadn (pc := 59) (i0 := 1) (j := 1) (dK D_Itr_next 33 rfl) rfl rfl ?_
      refine x_dup_x1 (pc := 60) (dK D_Itr_next 34 rfl) rfl rfl ?_
      refine bnE h ?_
      clear h
      intro L14 e_L14 h
      refine wx_put (Z := (S, L13)) (pc := 61) (ci := 14) (f := 1) e_L14 (dK D_Itr_next 35 rfl) q_826 (ltK rfl) (ltK rfl) rfl okInt ?_
      refine bnE h ?_
      clear h
      intro v15 e_v15 h
      refine wx_aald (pc := 64) e_v15 (vI_at e_v3).2 (dK D_Itr_next 36 rfl) (fun hv15 => ?_)
      obtain rfl := Option.some.inj h
      exact wk_aret (pc := 65) hv15 (dK D_Itr_next 37 rfl) rfl (by first | exact .inl ⟨_, rfl⟩ | exact .inr ⟨_, rfl⟩) (bdk hb) (bdn hb) ⟨rfl, hv15, rfl⟩
    · replace h := ifN h hc16
      exact nomatch h
  · replace h := ifN h hc17
    exact nomatch h
theorem tg_Itr_next {sc : SC} {c0 : Nat} {S : St} {L : List PC} {q : (Value × LZ) × Nat × Nat} (h : gn_Itr_next c0 S L = some q) : EvX sc M_Itr_next [.ref c0] (wz (S, L)) q.2.1 q.2.2 (KXR q.1.1 q.1.2) := EvX.of pn2_Itr rfl (leK rfl) (te_Itr_next  h ⟨Nat.le_of_eq (Nat.zero_add _), Nat.le_of_eq (Nat.zero_add _)⟩)
def gn_LI_init (c0 : Nat) (S : St) (L : List PC) : Option (Unit) := some ()
theorem te_LI_init {sc : SC} {c0 : Nat} {S : St} {L : List PC} {q : Unit} (h : gn_LI_init c0 S L = some q) {mc ms k n : Nat} (hk0 : k ≤ mc) (hn0 : n ≤ ms) : GX sc M_LI_init mc ms 0 [(0, .ref c0)] [] (wz (S, L)) k n (KXU (S, L)) := by
  unfold gn_LI_init at h
  refine x_aloadn (pc := 0) (i0 := 0) (j := 0) (dK D_LI_init 0 rfl) rfl rfl ?_
  refine x_objinit (pc := 1) (dK D_LI_init 1 rfl) q_871 (leK rfl) (leK rfl) (leK rfl) ?_
  exact wk_ret (pc := 4) (dK D_LI_init 2 rfl) rfl hk0 hn0 ⟨rfl, rfl⟩
theorem tg_LI_init {sc : SC} {c0 : Nat} {S : St} {L : List PC} {q : Unit} (h : gn_LI_init c0 S L = some q) : EvX sc M_LI_init [.ref c0] (wz (S, L)) 0 0 (KXU (S, L)) := EvX.of pn2_LI rfl (leK rfl) (te_LI_init  h (Nat.le_refl _) (Nat.le_refl _))
def gn_LI_copy (c0 : Nat) (S : St) (L : List PC) : Option ((Value × LZ) × Nat × Nat) := if L.length < 900000000 then adC 1 7 (nw L (11, dfl 11) fun r2 L3 => bnO (gn_LI_init r2 S L3) fun p5 => bnO (gfI L3 c0 11 0) fun v6 => bnO (pf L3 r2 11 0 (V v6)) fun L7 => bnO (gfI L7 c0 11 1) fun v8 => bnO (pf L7 r2 11 1 (V v8)) fun L9 => bnO (gfI L9 c0 11 2) fun v10 => bnO (pf L9 r2 11 2 (V v10)) fun L11 => bnO (gfI L11 c0 11 3) fun v12 => bnO (pf L11 r2 11 3 (V v12)) fun L13 => bnO (gfI L13 c0 11 4) fun v14 => bnO (pf L13 r2 11 4 (V v14)) fun L15 => bnO (gfI L15 c0 11 5) fun v16 => bnO (pf L15 r2 11 5 (V v16)) fun L17 => bnO (gfI L17 c0 11 6) fun v18 => if v18 = 0 ∨ v18 = 1 then (bnO (pf L17 r2 11 6 (V v18)) fun L19 => some (((.ref r2), (S, L19)), 0, 0)) else none) else none
theorem te_LI_copy {sc : SC} {c0 : Nat} {S : St} {L : List PC} {q : (Value × LZ) × Nat × Nat} (h : gn_LI_copy c0 S L = some q) {mc ms k n : Nat} (hb : Bd k n mc ms q) : GX sc M_LI_copy mc ms 0 [(0, .ref c0)] [] (wz (S, L)) k n (KXR q.1.1 q.1.2) := by
  unfold gn_LI_copy at h
  refine gdE h ?_
  clear h
  intro hl1 h
  obtain ⟨y4, h9, e9⟩ := adE2 h
  clear h
  subst e9
  have h := h9
  clear h9
  refine nwE h ?_
  clear h
  intro r2 L3 e_r2 e_L3 h
  have hk1 := bd1 hb
  have hn1 := bd2 hb
  replace hb := bdA hb
  refine wn_new (Z := (S, L)) (pc := 0) (ci := 11) (N := 7) e_r2 e_L3 hl1 rfl (dK D_LI_copy 0 rfl) (ltK rfl) q_866 q_867 q_38 hk1 hn1 ?_
  refine x_dup (pc := 3) (dK D_LI_copy 1 rfl) rfl ?_
  refine bnE h ?_
  clear h
  intro p5 e_p5 h
  refine x_callI (pc := 4) (As := []) (rest := [.ref r2]) (mc' := 0) (ms' := 0) (dK D_LI_copy 2 rfl) Q_LI_9 (fitK rfl) rfl (leK rfl) (bdk hb) (bdn hb) (tg_LI_init  e_p5) (kxU ?_)
  refine x_astoren (pc := 7) (i0 := 1) (ls2 := [(1, .ref r2), (0, .ref c0)]) (dK D_LI_copy 3 rfl) rfl (ltK rfl) rfl ?_
  refine x_aloadn (pc := 8) (i0 := 1) (j := 0) (dK D_LI_copy 4 rfl) rfl rfl ?_
  refine x_aloadn (pc := 9) (i0 := 0) (j := 1) (dK D_LI_copy 5 rfl) rfl rfl ?_
  refine bnE h ?_
  clear h
  intro v6 e_v6 h
  refine wx_getI (pc := 10) (ci := 11) (f := 0) e_v6 (dK D_LI_copy 6 rfl) q_872 (ltK rfl) (ltK rfl) ?_
  refine bnE h ?_
  clear h
  intro L7 e_L7 h
  refine wx_put (Z := (S, L3)) (pc := 13) (ci := 11) (f := 0) e_L7 (dK D_LI_copy 7 rfl) q_872 (ltK rfl) (ltK rfl) rfl okInt ?_
  refine x_aloadn (pc := 16) (i0 := 1) (j := 0) (dK D_LI_copy 8 rfl) rfl rfl ?_
  refine x_aloadn (pc := 17) (i0 := 0) (j := 1) (dK D_LI_copy 9 rfl) rfl rfl ?_
  refine bnE h ?_
  clear h
  intro v8 e_v8 h
  refine wx_getI (pc := 18) (ci := 11) (f := 1) e_v8 (dK D_LI_copy 10 rfl) q_875 (ltK rfl) (ltK rfl) ?_
  refine bnE h ?_
  clear h
  intro L9 e_L9 h
  refine wx_put (Z := (S, L7)) (pc := 21) (ci := 11) (f := 1) e_L9 (dK D_LI_copy 11 rfl) q_875 (ltK rfl) (ltK rfl) rfl okInt ?_
  refine x_aloadn (pc := 24) (i0 := 1) (j := 0) (dK D_LI_copy 12 rfl) rfl rfl ?_
  refine x_aloadn (pc := 25) (i0 := 0) (j := 1) (dK D_LI_copy 13 rfl) rfl rfl ?_
  refine bnE h ?_
  clear h
  intro v10 e_v10 h
  refine wx_getI (pc := 26) (ci := 11) (f := 2) e_v10 (dK D_LI_copy 14 rfl) q_878 (ltK rfl) (ltK rfl) ?_
  refine bnE h ?_
  clear h
  intro L11 e_L11 h
  refine wx_put (Z := (S, L9)) (pc := 29) (ci := 11) (f := 2) e_L11 (dK D_LI_copy 15 rfl) q_878 (ltK rfl) (ltK rfl) rfl okInt ?_
  refine x_aloadn (pc := 32) (i0 := 1) (j := 0) (dK D_LI_copy 16 rfl) rfl rfl ?_
  refine x_aloadn (pc := 33) (i0 := 0) (j := 1) (dK D_LI_copy 17 rfl) rfl rfl ?_
  refine bnE h ?_
  clear h
  intro v12 e_v12 h
  refine wx_getI (pc := 34) (ci := 11) (f := 3) e_v12 (dK D_LI_copy 18 rfl) q_881 (ltK rfl) (ltK rfl) ?_
  refine bnE h ?_
  clear h
  intro L13 e_L13 h
  refine wx_put (Z := (S, L11)) (pc := 37) (ci := 11) (f := 3) e_L13 (dK D_LI_copy 19 rfl) q_881 (ltK rfl) (ltK rfl) rfl okInt ?_
  refine x_aloadn (pc := 40) (i0 := 1) (j := 0) (dK D_LI_copy 20 rfl) rfl rfl ?_
  refine x_aloadn (pc := 41) (i0 := 0) (j := 1) (dK D_LI_copy 21 rfl) rfl rfl ?_
  refine bnE h ?_
  clear h
  intro v14 e_v14 h
  refine wx_getI (pc := 42) (ci := 11) (f := 4) e_v14 (dK D_LI_copy 22 rfl) q_884 (ltK rfl) (ltK rfl) ?_
  refine bnE h ?_
  clear h
  intro L15 e_L15 h
  refine wx_put (Z := (S, L13)) (pc := 45) (ci := 11) (f := 4) e_L15 (dK D_LI_copy 23 rfl) q_884 (ltK rfl) (ltK rfl) rfl okInt ?_
  refine x_aloadn (pc := 48) (i0 := 1) (j := 0) (dK D_LI_copy 24 rfl) rfl rfl ?_
  refine x_aloadn (pc := 49) (i0 := 0) (j := 1) (dK D_LI_copy 25 rfl) rfl rfl ?_
  refine bnE h ?_
  clear h
  intro v16 e_v16 h
  refine wx_getI (pc := 50) (ci := 11) (f := 5) e_v16 (dK D_LI_copy 26 rfl) q_887 (ltK rfl) (ltK rfl) ?_
  refine bnE h ?_
  clear h
  intro L17 e_L17 h
  refine wx_put (Z := (S, L15)) (pc := 53) (ci := 11) (f := 5) e_L17 (dK D_LI_copy 27 rfl) q_887 (ltK rfl) (ltK rfl) rfl okInt ?_
  refine x_aloadn (pc := 56) (i0 := 1) (j := 0) (dK D_LI_copy 28 rfl) rfl rfl ?_
  refine x_aloadn (pc := 57) (i0 := 0) (j := 1) (dK D_LI_copy 29 rfl) rfl rfl ?_
  refine bnE h ?_
  clear h
  intro v18 e_v18 h
  refine wx_getI (pc := 58) (ci := 11) (f := 6) e_v18 (dK D_LI_copy 30 rfl) q_890 (ltK rfl) (ltK rfl) ?_
  refine gdE h ?_
  clear h
  intro hz20 h
  refine bnE h ?_
  clear h
  intro L19 e_L19 h
  refine wx_put (Z := (S, L17)) (pc := 61) (ci := 11) (f := 6) e_L19 (dK D_LI_copy 31 rfl) q_890 (ltK rfl) (ltK rfl) rfl (okBool hz20) ?_
  refine x_aloadn (pc := 64) (i0 := 1) (j := 0) (dK D_LI_copy 32 rfl) rfl rfl ?_
  obtain rfl := Option.some.inj h
  exact wk_aret (pc := 65) (.inr ⟨_, rfl⟩) (dK D_LI_copy 33 rfl) rfl (by first | exact .inl ⟨_, rfl⟩ | exact .inr ⟨_, rfl⟩) (bdk hb) (bdn hb) ⟨rfl, (.inr ⟨_, rfl⟩), rfl⟩
theorem tg_LI_copy {sc : SC} {c0 : Nat} {S : St} {L : List PC} {q : (Value × LZ) × Nat × Nat} (h : gn_LI_copy c0 S L = some q) : EvX sc M_LI_copy [.ref c0] (wz (S, L)) q.2.1 q.2.2 (KXR q.1.1 q.1.2) := EvX.of pn2_LI rfl (leK rfl) (te_LI_copy  h ⟨Nat.le_of_eq (Nat.zero_add _), Nat.le_of_eq (Nat.zero_add _)⟩)
def gn_ArS_newLength (a0 : Int) (a1 : Int) (a2 : Int) (S : St) (L : List PC) : Option (Int) := nm (wr (a0 + (i_max a1 a2))) fun v1 => if v1 ≤ 0 then none else (if 2147483639 < v1 then none else (some v1))
theorem te_ArS_newLength {sc : SC} {a0 : Int} (ha0 : inR a0) {a1 : Int} (ha1 : inR a1) {a2 : Int} (ha2 : inR a2) {S : St} {L : List PC} {q : Int} (h : gn_ArS_newLength a0 a1 a2 S L = some q) {mc ms k n : Nat} (hk0 : k ≤ mc) (hn0 : n ≤ ms) : GX sc M_ArS_newLength mc ms 0 [(0, V a0), (1, V a1), (2, V a2)] [] (wz (S, L)) k n (KXI q (S, L)) := by
  unfold gn_ArS_newLength at h
  refine x_iloadn (pc := 0) (i0 := 0) (j := 0) (dK D_ArS_newLength 0 rfl) rfl rfl ?_
  refine x_iloadn (pc := 1) (i0 := 1) (j := 1) (dK D_ArS_newLength 1 rfl) rfl rfl ?_
  refine x_iloadn (pc := 2) (i0 := 2) (j := 2) (dK D_ArS_newLength 2 rfl) rfl rfl ?_
  refine wx_mmax (pc := 3) (dK D_ArS_newLength 3 rfl) q_927 (leK rfl) (leK rfl) hk0 hn0 ha1 ha2 ?_
  refine wx_iadd (pc := 6) (dK D_ArS_newLength 4 rfl) ?_
  refine nmE h ?_
  clear h
  intro v1 e_v1 h
  refine wtop e_v1 ?_
  refine x_istoren (pc := 7) (i0 := 3) (ls2 := [(3, V v1), (0, V a0), (1, V a1), (2, V a2)]) (dK D_ArS_newLength 5 rfl) rfl (ltK rfl) rfl ?_
  refine wx_iconst (pc := 8) (dK D_ArS_newLength 6 rfl) ?_
  refine x_iloadn (pc := 9) (i0 := 3) (j := 0) (dK D_ArS_newLength 7 rfl) rfl rfl ?_
  refine wx_icmp_ge (pc := 10) (t := 21) (dK D_ArS_newLength 8 rfl) rfl (inRk rfl) (Vn_in e_v1) (fun hc3 => ?_) (fun hc3 => ?_)
  · replace h := ifP h hc3
    exact nomatch h
  · replace h := ifN h hc3
    refine x_iloadn (pc := 13) (i0 := 3) (j := 0) (dK D_ArS_newLength 9 rfl) rfl rfl ?_
    refine wx_ldc (pc := 14) (y := 2147483639) (dK D_ArS_newLength 10 rfl) q_930 rfl ?_
    refine wx_icmp_gt (pc := 16) (t := 21) (dK D_ArS_newLength 11 rfl) rfl (Vn_in e_v1) (inRk rfl) (fun hc2 => ?_) (fun hc2 => ?_)
    · replace h := ifP h hc2
      exact nomatch h
    · replace h := ifN h hc2
      refine x_iloadn (pc := 19) (i0 := 3) (j := 0) (dK D_ArS_newLength 12 rfl) rfl rfl ?_
      obtain rfl := Option.some.inj h
      exact wk_iretI (pc := 20) (dK D_ArS_newLength 13 rfl) rfl hk0 hn0 ⟨rfl, (Vn_in e_v1), rfl⟩
theorem tg_ArS_newLength {sc : SC} {a0 : Int} (ha0 : inR a0) {a1 : Int} (ha1 : inR a1) {a2 : Int} (ha2 : inR a2) {S : St} {L : List PC} {q : Int} (h : gn_ArS_newLength a0 a1 a2 S L = some q) : EvX sc M_ArS_newLength [V a0, V a1, V a2] (wz (S, L)) 0 0 (KXI q (S, L)) := EvX.of pn2_ArS rfl (leK rfl) (te_ArS_newLength ha0 ha1 ha2 h (Nat.le_refl _) (Nat.le_refl _))
def gn_Ars_copyOf2 (c0 : Nat) (a1 : Int) (c2 : Nat) (S : St) (L : List PC) : Option ((Value × LZ) × Nat × Nat) := if apq L c2 (XB + 300 + 304) = true then (if c2 = (XB + 300 + 304) then (if (0 : Int) ≤ a1 ∧ (a1 : Int) ≤ 16384 then (if L.length < 900000000 then adC 1 a1.toNat (nw L (103, List.replicate a1.toNat (.null)) fun r6 L7 => bnO (alm L7 c0) fun v8 => bnO (cpQ L7 c0 0 r6 0 (i_min v8 a1)) fun L9 => some (((.ref r6), (S, L9)), 0, 0)) else none) else none) else none) else none
theorem te_Ars_copyOf2 {sc : SC} {c0 : Nat} {a1 : Int} (ha1 : inR a1) {c2 : Nat} {S : St} {L : List PC} {q : (Value × LZ) × Nat × Nat} (h : gn_Ars_copyOf2 c0 a1 c2 S L = some q) {mc ms k n : Nat} (hb : Bd k n mc ms q) : GX sc M_Ars_copyOf2 mc ms 0 [(0, .ref c0), (1, V a1), (2, .ref c2)] [] (wz (S, L)) k n (KXR q.1.1 q.1.2) := by
  unfold gn_Ars_copyOf2 at h
  refine x_aloadn (pc := 0) (i0 := 2) (j := 2) (dK D_Ars_copyOf2 0 rfl) rfl rfl ?_
  refine x_ldcM (pc := 1) (dK D_Ars_copyOf2 1 rfl) q_966 ?_
  refine gdE h ?_
  clear h
  intro hap1 h
  refine x_acmp_ne (pc := 3) (tgt := 13) (apq_at (Z := (S, L)) hap1) (dK D_Ars_copyOf2 2 rfl) rfl (fun hc2 => ?_) (fun hc2 => ?_)
  · replace h := ifN h hc2
    exact nomatch h
  · replace h := ifP h hc2
    refine x_iloadn (pc := 6) (i0 := 1) (j := 1) (dK D_Ars_copyOf2 3 rfl) rfl rfl ?_
    refine gdE h ?_
    clear h
    intro hz3 h
    refine gdE h ?_
    clear h
    intro hl4 h
    obtain ⟨y5, h9, e9⟩ := adE2 h
    clear h
    subst e9
    have h := h9
    clear h9
    refine nwE h ?_
    clear h
    intro r6 L7 e_r6 e_L7 h
    have hk1 := bd1 hb
    have hn1 := bd2 hb
    replace hb := bdA hb
    refine wn_newq (Z := (S, L)) (pc := 7) e_r6 e_L7 hl4 ha1 hz3 (dK D_Ars_copyOf2 4 rfl) q_968 hk1 hn1 ?_
    refine x_goto (pc := 10) (tgt := 24) (dK D_Ars_copyOf2 5 rfl) rfl ?_
    refine x_astoren (pc := 24) (i0 := 3) (ls2 := [(3, .ref r6), (0, .ref c0), (1, V a1), (2, .ref c2)]) (dK D_Ars_copyOf2 11 rfl) rfl (ltK rfl) rfl ?_
    refine x_aloadn (pc := 25) (i0 := 0) (j := 1) (dK D_Ars_copyOf2 12 rfl) rfl rfl ?_
    refine wx_iconst (pc := 26) (dK D_Ars_copyOf2 13 rfl) ?_
    refine x_aloadn (pc := 27) (i0 := 3) (j := 0) (dK D_Ars_copyOf2 14 rfl) rfl rfl ?_
    refine wx_iconst (pc := 28) (dK D_Ars_copyOf2 15 rfl) ?_
    refine x_aloadn (pc := 29) (i0 := 0) (j := 1) (dK D_Ars_copyOf2 16 rfl) rfl rfl ?_
    refine bnE h ?_
    clear h
    intro v8 e_v8 h
    refine wx_alm (pc := 30) e_v8 (dK D_Ars_copyOf2 17 rfl) (fun i_v8 => ?_)
    refine x_iloadn (pc := 31) (i0 := 1) (j := 2) (dK D_Ars_copyOf2 18 rfl) rfl rfl ?_
    refine wx_mmin (pc := 32) (dK D_Ars_copyOf2 19 rfl) q_969 (leK rfl) (leK rfl) (bdk hb) (bdn hb) i_v8 ha1 ?_
    refine bnE h ?_
    clear h
    intro L9 e_L9 h
    refine wx_copyQ (Z := (S, L7)) (pc := 35) e_L9 (inRk rfl) (inRk rfl) (i_min_in i_v8 ha1) (dK D_Ars_copyOf2 20 rfl) q_970 (leK rfl) (leK rfl) ?_
    refine x_aloadn (pc := 38) (i0 := 3) (j := 0) (dK D_Ars_copyOf2 21 rfl) rfl rfl ?_
    obtain rfl := Option.some.inj h
    exact wk_aret (pc := 39) (.inr ⟨_, rfl⟩) (dK D_Ars_copyOf2 22 rfl) rfl (by first | exact .inl ⟨_, rfl⟩ | exact .inr ⟨_, rfl⟩) (bdk hb) (bdn hb) ⟨rfl, (.inr ⟨_, rfl⟩), rfl⟩
theorem tg_Ars_copyOf2 {sc : SC} {c0 : Nat} {a1 : Int} (ha1 : inR a1) {c2 : Nat} {S : St} {L : List PC} {q : (Value × LZ) × Nat × Nat} (h : gn_Ars_copyOf2 c0 a1 c2 S L = some q) : EvX sc M_Ars_copyOf2 [.ref c0, V a1, .ref c2] (wz (S, L)) q.2.1 q.2.2 (KXR q.1.1 q.1.2) := EvX.of pn2_Ars rfl (leK rfl) (te_Ars_copyOf2 ha1 h ⟨Nat.le_of_eq (Nat.zero_add _), Nat.le_of_eq (Nat.zero_add _)⟩)
def gn_Ars_copyOf (c0 : Nat) (a1 : Int) (S : St) (L : List PC) : Option ((Value × LZ) × Nat × Nat) := if isA L c0 3 = true then (bnO (gn_Ars_copyOf2 c0 a1 (XB + 300 + 304) S L) fun p2 => adC p2.2.1 p2.2.2 (some ((p2.1.1, (p2.1.2.1, p2.1.2.2)), 0, 0))) else none
theorem te_Ars_copyOf {sc : SC} {c0 : Nat} {a1 : Int} (ha1 : inR a1) {S : St} {L : List PC} {q : (Value × LZ) × Nat × Nat} (h : gn_Ars_copyOf c0 a1 S L = some q) {mc ms k n : Nat} (hb : Bd k n mc ms q) : GX sc M_Ars_copyOf mc ms 0 [(0, .ref c0), (1, V a1)] [] (wz (S, L)) k n (KXR q.1.1 q.1.2) := by
  unfold gn_Ars_copyOf at h
  refine x_aloadn (pc := 0) (i0 := 0) (j := 0) (dK D_Ars_copyOf 0 rfl) rfl rfl ?_
  refine x_iloadn (pc := 1) (i0 := 1) (j := 1) (dK D_Ars_copyOf 1 rfl) rfl rfl ?_
  refine x_aloadn (pc := 2) (i0 := 0) (j := 0) (dK D_Ars_copyOf 2 rfl) rfl rfl ?_
  refine gdE h ?_
  clear h
  intro hk1 h
  refine wx_getC (Z := (S, L)) (pc := 3) hk1 (dK D_Ars_copyOf 3 rfl) q_937 q_2121 q_938 q_962 (leK rfl) (leK rfl) ?_
  refine bnE h ?_
  clear h
  intro p2 e_p2 h
  obtain ⟨yp2, h9, e9⟩ := adE2 h
  clear h
  subst e9
  have h := h9
  clear h9
  have hk1 := bd1 hb
  have hn1 := bd2 hb
  replace hb := bdA hb
  refine x_callS (pc := 6) (As := [.ref c0, V a1, .ref (XB + 300 + 304)]) (rest := []) (mc' := p2.2.1) (ms' := p2.2.2) (dK D_Ars_copyOf 4 rfl) Q_Ars_300 (fitK rfl) rfl (leK rfl) hk1 hn1 (tg_Ars_copyOf2 ha1 e_p2) (kxR (fun h_p2 => ?_))
  obtain rfl := Option.some.inj h
  exact wk_aret (pc := 9) h_p2 (dK D_Ars_copyOf 5 rfl) rfl (by first | exact .inl ⟨_, rfl⟩ | exact .inr ⟨_, rfl⟩) (bdk hb) (bdn hb) ⟨rfl, h_p2, rfl⟩
theorem tg_Ars_copyOf {sc : SC} {c0 : Nat} {a1 : Int} (ha1 : inR a1) {S : St} {L : List PC} {q : (Value × LZ) × Nat × Nat} (h : gn_Ars_copyOf c0 a1 S L = some q) : EvX sc M_Ars_copyOf [.ref c0, V a1] (wz (S, L)) q.2.1 q.2.2 (KXR q.1.1 q.1.2) := EvX.of pn2_Ars rfl (leK rfl) (te_Ars_copyOf ha1 h ⟨Nat.le_of_eq (Nat.zero_add _), Nat.le_of_eq (Nat.zero_add _)⟩)
def gn_AL_grow2 (c0 : Nat) (a1 : Int) (S : St) (L : List PC) : Option ((Value × LZ) × Nat × Nat) := bnO (gfV L c0 13 0) fun v1 => rfB v1 fun r2 => bnO (alm L r2) fun v3 => if 0 < v3 then (nm (wr (a1 - v3)) fun v4 => bnO (gn_ArS_newLength v3 v4 (i_shr v3 1) S L) fun p5 => bnO (gfV L c0 13 0) fun v6 => rfB v6 fun r7 => bnO (gn_Ars_copyOf r7 p5 S L) fun p8 => adC p8.2.1 p8.2.2 (bnO (pf p8.1.2.2 c0 13 0 (p8.1.1)) fun L9 => some ((p8.1.1, (p8.1.2.1, L9)), 0, 0))) else (bnO (gfV L c0 13 0) fun v10 => rfB v10 fun r11 => if apq L r11 (XB + 300 + 300) = true then (if r11 = (XB + 300 + 300) then (if (0 : Int) ≤ (i_max 10 a1) ∧ ((i_max 10 a1) : Int) ≤ 16384 then (if L.length < 900000000 then adC 1 (i_max 10 a1).toNat (nw L (103, List.replicate (i_max 10 a1).toNat (.null)) fun r17 L18 => bnO (pf L18 c0 13 0 (.ref r17)) fun L19 => some (((.ref r17), (S, L19)), 0, 0)) else none) else none) else (nm (wr (a1 - v3)) fun v20 => bnO (gn_ArS_newLength v3 v20 (i_shr v3 1) S L) fun p21 => bnO (gfV L c0 13 0) fun v22 => rfB v22 fun r23 => bnO (gn_Ars_copyOf r23 p21 S L) fun p24 => adC p24.2.1 p24.2.2 (bnO (pf p24.1.2.2 c0 13 0 (p24.1.1)) fun L25 => some ((p24.1.1, (p24.1.2.1, L25)), 0, 0)))) else none)
theorem te_AL_grow2 {sc : SC} {c0 : Nat} {a1 : Int} (ha1 : inR a1) {S : St} {L : List PC} {q : (Value × LZ) × Nat × Nat} (h : gn_AL_grow2 c0 a1 S L = some q) {mc ms k n : Nat} (hb : Bd k n mc ms q) : GX sc M_AL_grow2 mc ms 0 [(0, .ref c0), (1, V a1)] [] (wz (S, L)) k n (KXR q.1.1 q.1.2) := by
  unfold gn_AL_grow2 at h
  refine x_aloadn (pc := 0) (i0 := 0) (j := 0) (dK D_AL_grow2 0 rfl) rfl rfl ?_
  refine bnE h ?_
  clear h
  intro v1 e_v1 h
  refine wx_getV (pc := 1) (ci := 13) (f := 0) e_v1 (dK D_AL_grow2 1 rfl) q_752 (ltK rfl) (ltK rfl) (fun hv1 => ?_)
  refine rfE h ?_
  clear h
  intro r2 e_r2 h
  rw [e_r2]
  refine bnE h ?_
  clear h
  intro v3 e_v3 h
  refine wx_alm (pc := 4) e_v3 (dK D_AL_grow2 2 rfl) (fun i_v3 => ?_)
  refine x_istoren (pc := 5) (i0 := 2) (ls2 := [(2, V v3), (0, .ref c0), (1, V a1)]) (dK D_AL_grow2 3 rfl) rfl (ltK rfl) rfl ?_
  refine x_iloadn (pc := 6) (i0 := 2) (j := 0) (dK D_AL_grow2 4 rfl) rfl rfl ?_
  refine wx_if_gt (pc := 7) (t := 20) (dK D_AL_grow2 5 rfl) rfl i_v3 (fun hc26 => ?_) (fun hc26 => ?_)
  · replace h := ifP h hc26
    refine x_iloadn (pc := 20) (i0 := 2) (j := 0) (dK D_AL_grow2 10 rfl) rfl rfl ?_
    refine x_iloadn (pc := 21) (i0 := 1) (j := 2) (dK D_AL_grow2 11 rfl) rfl rfl ?_
    refine x_iloadn (pc := 22) (i0 := 2) (j := 0) (dK D_AL_grow2 12 rfl) rfl rfl ?_
    refine wx_isub (pc := 23) (dK D_AL_grow2 13 rfl) ?_
    refine x_iloadn (pc := 24) (i0 := 2) (j := 0) (dK D_AL_grow2 14 rfl) rfl rfl ?_
    refine wx_iconst (pc := 25) (dK D_AL_grow2 15 rfl) ?_
    refine wx_ishr (pc := 26) (dK D_AL_grow2 16 rfl) ?_
    refine nmE h ?_
    clear h
    intro v4 e_v4 h
    refine wsk (st' := [V (i_shr v3 1), V v4, V v3]) (congrArg (fun z9 => [V (i_shr v3 1), z9, V v3]) (Vn e_v4)) ?_
    refine bnE h ?_
    clear h
    intro p5 e_p5 h
    refine x_callS (pc := 27) (As := [V v3, V v4, V (i_shr v3 1)]) (rest := []) (mc' := 0) (ms' := 0) (dK D_AL_grow2 17 rfl) Q_AL_73 (fitK rfl) rfl (leK rfl) (bdk hb) (bdn hb) (tg_ArS_newLength i_v3 (Vn_in e_v4) (toInt_in _) e_p5) (kxI' (fun h_p5 => ?_))
    refine x_istoren (pc := 30) (i0 := 3) (ls2 := [(3, V p5), (2, V v3), (0, .ref c0), (1, V a1)]) (dK D_AL_grow2 18 rfl) rfl (ltK rfl) rfl ?_
    refine x_aloadn (pc := 31) (i0 := 0) (j := 2) (dK D_AL_grow2 19 rfl) rfl rfl ?_
    refine x_aloadn (pc := 32) (i0 := 0) (j := 2) (dK D_AL_grow2 20 rfl) rfl rfl ?_
    refine bnE h ?_
    clear h
    intro v6 e_v6 h
    refine wx_getV (pc := 33) (ci := 13) (f := 0) e_v6 (dK D_AL_grow2 21 rfl) q_752 (ltK rfl) (ltK rfl) (fun hv6 => ?_)
    refine x_iloadn (pc := 36) (i0 := 3) (j := 0) (dK D_AL_grow2 22 rfl) rfl rfl ?_
    refine rfE h ?_
    clear h
    intro r7 e_r7 h
    rw [e_r7]
    refine bnE h ?_
    clear h
    intro p8 e_p8 h
    obtain ⟨yp8, h9, e9⟩ := adE2 h
    clear h
    subst e9
    have h := h9
    clear h9
    have hk1 := bd1 hb
    have hn1 := bd2 hb
    replace hb := bdA hb
    refine x_callS (pc := 37) (As := [.ref r7, V p5]) (rest := [.ref c0]) (mc' := p8.2.1) (ms' := p8.2.2) (dK D_AL_grow2 23 rfl) Q_AL_66 (fitK rfl) rfl (leK rfl) hk1 hn1 (tg_Ars_copyOf h_p5 e_p8) (kxR (fun h_p8 => ?_))
    refine x_dup_x1 (pc := 40) (dK D_AL_grow2 24 rfl) (cato h_p8) rfl ?_
    refine bnE h ?_
    clear h
    intro L9 e_L9 h
    refine wx_put (Z := (p8.1.2.1, p8.1.2.2)) (pc := 41) (ci := 13) (f := 0) e_L9 (dK D_AL_grow2 25 rfl) q_752 (ltK rfl) (ltK rfl) rfl (okArr h_p8) ?_
    obtain rfl := Option.some.inj h
    exact wk_aret (pc := 44) h_p8 (dK D_AL_grow2 26 rfl) rfl (by first | exact .inl ⟨_, rfl⟩ | exact .inr ⟨_, rfl⟩) (bdk hb) (bdn hb) ⟨rfl, h_p8, rfl⟩
  · replace h := ifN h hc26
    refine x_aloadn (pc := 10) (i0 := 0) (j := 1) (dK D_AL_grow2 6 rfl) rfl rfl ?_
    refine bnE h ?_
    clear h
    intro v10 e_v10 h
    refine wx_getV (pc := 11) (ci := 13) (f := 0) e_v10 (dK D_AL_grow2 7 rfl) q_752 (ltK rfl) (ltK rfl) (fun hv10 => ?_)
    refine x_gs_empty (pc := 14) (dK D_AL_grow2 8 rfl) q_750 ?_
    refine rfE h ?_
    clear h
    intro r11 e_r11 h
    rw [e_r11]
    refine gdE h ?_
    clear h
    intro hap12 h
    refine x_acmp_eq (pc := 17) (tgt := 45) (apq_at (Z := (S, L)) hap12) (dK D_AL_grow2 9 rfl) rfl (fun hc13 => ?_) (fun hc13 => ?_)
    · replace h := ifP h hc13
      refine x_aloadn (pc := 45) (i0 := 0) (j := 1) (dK D_AL_grow2 27 rfl) rfl rfl ?_
      refine wx_bipush (pc := 46) (dK D_AL_grow2 28 rfl) rfl ?_
      refine x_iloadn (pc := 48) (i0 := 1) (j := 2) (dK D_AL_grow2 29 rfl) rfl rfl ?_
      refine wx_mmax (pc := 49) (dK D_AL_grow2 30 rfl) q_971 (leK rfl) (leK rfl) (bdk hb) (bdn hb) (inRk rfl) ha1 ?_
      refine gdE h ?_
      clear h
      intro hz14 h
      refine gdE h ?_
      clear h
      intro hl15 h
      obtain ⟨y16, h9, e9⟩ := adE2 h
      clear h
      subst e9
      have h := h9
      clear h9
      refine nwE h ?_
      clear h
      intro r17 L18 e_r17 e_L18 h
      have hk1 := bd1 hb
      have hn1 := bd2 hb
      replace hb := bdA hb
      refine wn_newq (Z := (S, L)) (pc := 52) e_r17 e_L18 hl15 (i_max_in (inRk rfl) ha1) hz14 (dK D_AL_grow2 31 rfl) q_972 hk1 hn1 ?_
      refine x_dup_x1 (pc := 55) (dK D_AL_grow2 32 rfl) rfl rfl ?_
      refine bnE h ?_
      clear h
      intro L19 e_L19 h
      refine wx_put (Z := (S, L18)) (pc := 56) (ci := 13) (f := 0) e_L19 (dK D_AL_grow2 33 rfl) q_752 (ltK rfl) (ltK rfl) rfl (okArr (.inr ⟨_, rfl⟩)) ?_
      obtain rfl := Option.some.inj h
      exact wk_aret (pc := 59) (.inr ⟨_, rfl⟩) (dK D_AL_grow2 34 rfl) rfl (by first | exact .inl ⟨_, rfl⟩ | exact .inr ⟨_, rfl⟩) (bdk hb) (bdn hb) ⟨rfl, (.inr ⟨_, rfl⟩), rfl⟩
    · replace h := ifN h hc13
      refine x_iloadn (pc := 20) (i0 := 2) (j := 0) (dK D_AL_grow2 10 rfl) rfl rfl ?_
      refine x_iloadn (pc := 21) (i0 := 1) (j := 2) (dK D_AL_grow2 11 rfl) rfl rfl ?_
      refine x_iloadn (pc := 22) (i0 := 2) (j := 0) (dK D_AL_grow2 12 rfl) rfl rfl ?_
      refine wx_isub (pc := 23) (dK D_AL_grow2 13 rfl) ?_
      refine x_iloadn (pc := 24) (i0 := 2) (j := 0) (dK D_AL_grow2 14 rfl) rfl rfl ?_
      refine wx_iconst (pc := 25) (dK D_AL_grow2 15 rfl) ?_
      refine wx_ishr (pc := 26) (dK D_AL_grow2 16 rfl) ?_
      refine nmE h ?_
      clear h
      intro v20 e_v20 h
      refine wsk (st' := [V (i_shr v3 1), V v20, V v3]) (congrArg (fun z9 => [V (i_shr v3 1), z9, V v3]) (Vn e_v20)) ?_
      refine bnE h ?_
      clear h
      intro p21 e_p21 h
      refine x_callS (pc := 27) (As := [V v3, V v20, V (i_shr v3 1)]) (rest := []) (mc' := 0) (ms' := 0) (dK D_AL_grow2 17 rfl) Q_AL_73 (fitK rfl) rfl (leK rfl) (bdk hb) (bdn hb) (tg_ArS_newLength i_v3 (Vn_in e_v20) (toInt_in _) e_p21) (kxI' (fun h_p21 => ?_))
      refine x_istoren (pc := 30) (i0 := 3) (ls2 := [(3, V p21), (2, V v3), (0, .ref c0), (1, V a1)]) (dK D_AL_grow2 18 rfl) rfl (ltK rfl) rfl ?_
      refine x_aloadn (pc := 31) (i0 := 0) (j := 2) (dK D_AL_grow2 19 rfl) rfl rfl ?_
      refine x_aloadn (pc := 32) (i0 := 0) (j := 2) (dK D_AL_grow2 20 rfl) rfl rfl ?_
      refine bnE h ?_
      clear h
      intro v22 e_v22 h
      refine wx_getV (pc := 33) (ci := 13) (f := 0) e_v22 (dK D_AL_grow2 21 rfl) q_752 (ltK rfl) (ltK rfl) (fun hv22 => ?_)
      refine x_iloadn (pc := 36) (i0 := 3) (j := 0) (dK D_AL_grow2 22 rfl) rfl rfl ?_
      refine rfE h ?_
      clear h
      intro r23 e_r23 h
      rw [e_r23]
      refine bnE h ?_
      clear h
      intro p24 e_p24 h
      obtain ⟨yp24, h9, e9⟩ := adE2 h
      clear h
      subst e9
      have h := h9
      clear h9
      have hk1 := bd1 hb
      have hn1 := bd2 hb
      replace hb := bdA hb
      refine x_callS (pc := 37) (As := [.ref r23, V p21]) (rest := [.ref c0]) (mc' := p24.2.1) (ms' := p24.2.2) (dK D_AL_grow2 23 rfl) Q_AL_66 (fitK rfl) rfl (leK rfl) hk1 hn1 (tg_Ars_copyOf h_p21 e_p24) (kxR (fun h_p24 => ?_))
      refine x_dup_x1 (pc := 40) (dK D_AL_grow2 24 rfl) (cato h_p24) rfl ?_
      refine bnE h ?_
      clear h
      intro L25 e_L25 h
      refine wx_put (Z := (p24.1.2.1, p24.1.2.2)) (pc := 41) (ci := 13) (f := 0) e_L25 (dK D_AL_grow2 25 rfl) q_752 (ltK rfl) (ltK rfl) rfl (okArr h_p24) ?_
      obtain rfl := Option.some.inj h
      exact wk_aret (pc := 44) h_p24 (dK D_AL_grow2 26 rfl) rfl (by first | exact .inl ⟨_, rfl⟩ | exact .inr ⟨_, rfl⟩) (bdk hb) (bdn hb) ⟨rfl, h_p24, rfl⟩
theorem tg_AL_grow2 {sc : SC} {c0 : Nat} {a1 : Int} (ha1 : inR a1) {S : St} {L : List PC} {q : (Value × LZ) × Nat × Nat} (h : gn_AL_grow2 c0 a1 S L = some q) : EvX sc M_AL_grow2 [.ref c0, V a1] (wz (S, L)) q.2.1 q.2.2 (KXR q.1.1 q.1.2) := EvX.of pn2_AL rfl (leK rfl) (te_AL_grow2 ha1 h ⟨Nat.le_of_eq (Nat.zero_add _), Nat.le_of_eq (Nat.zero_add _)⟩)
def gn_AL_grow (c0 : Nat) (S : St) (L : List PC) : Option ((Value × LZ) × Nat × Nat) := bnO (gfI L c0 13 1) fun v1 => nm (wr (v1 + 1)) fun v2 => if isK L c0 13 = true then (bnO (gn_AL_grow2 c0 v2 S L) fun p3 => adC p3.2.1 p3.2.2 (some ((p3.1.1, (p3.1.2.1, p3.1.2.2)), 0, 0))) else none
theorem te_AL_grow {sc : SC} {c0 : Nat} {S : St} {L : List PC} {q : (Value × LZ) × Nat × Nat} (h : gn_AL_grow c0 S L = some q) {mc ms k n : Nat} (hb : Bd k n mc ms q) : GX sc M_AL_grow mc ms 0 [(0, .ref c0)] [] (wz (S, L)) k n (KXR q.1.1 q.1.2) := by
  unfold gn_AL_grow at h
  refine x_aloadn (pc := 0) (i0 := 0) (j := 0) (dK D_AL_grow 0 rfl) rfl rfl ?_
  refine x_aloadn (pc := 1) (i0 := 0) (j := 0) (dK D_AL_grow 1 rfl) rfl rfl ?_
  refine bnE h ?_
  clear h
  intro v1 e_v1 h
  refine wx_getI (pc := 2) (ci := 13) (f := 1) e_v1 (dK D_AL_grow 2 rfl) q_755 (ltK rfl) (ltK rfl) ?_
  refine wx_iconst (pc := 5) (dK D_AL_grow 3 rfl) ?_
  refine wx_iadd (pc := 6) (dK D_AL_grow 4 rfl) ?_
  refine nmE h ?_
  clear h
  intro v2 e_v2 h
  refine wtop e_v2 ?_
  refine gdE h ?_
  clear h
  intro hk4 h
  refine bnE h ?_
  clear h
  intro p3 e_p3 h
  obtain ⟨yp3, h9, e9⟩ := adE2 h
  clear h
  subst e9
  have h := h9
  clear h9
  have hk1 := bd1 hb
  have hn1 := bd2 hb
  replace hb := bdA hb
  refine x_callX (pc := 7) (As := [V v2]) (rest := []) (mc' := p3.2.1) (ms' := p3.2.2) (dK D_AL_grow 5 rfl) Q_AL_69 sx_AL_grow2 (fitK rfl) (isK_at (Z := (S, L)) (ci := 13) hk4) rfl (leK rfl) hk1 hn1 (tg_AL_grow2 (Vn_in e_v2) e_p3) (kxR (fun h_p3 => ?_))
  obtain rfl := Option.some.inj h
  exact wk_aret (pc := 10) h_p3 (dK D_AL_grow 6 rfl) rfl (by first | exact .inl ⟨_, rfl⟩ | exact .inr ⟨_, rfl⟩) (bdk hb) (bdn hb) ⟨rfl, h_p3, rfl⟩
theorem tg_AL_grow {sc : SC} {c0 : Nat} {S : St} {L : List PC} {q : (Value × LZ) × Nat × Nat} (h : gn_AL_grow c0 S L = some q) : EvX sc M_AL_grow [.ref c0] (wz (S, L)) q.2.1 q.2.2 (KXR q.1.1 q.1.2) := EvX.of pn2_AL rfl (leK rfl) (te_AL_grow  h ⟨Nat.le_of_eq (Nat.zero_add _), Nat.le_of_eq (Nat.zero_add _)⟩)
def gn_AL_add2 (c0 : Nat) (c1 : Value) (c2 : Nat) (a3 : Int) (S : St) (L : List PC) : Option ((LZ) × Nat × Nat) := bnO (alm L c2) fun v1 => if a3 = v1 then (if isK L c0 13 = true then (bnO (gn_AL_grow c0 S L) fun p6 => adC p6.2.1 p6.2.2 (rfB p6.1.1 fun r8 => if okE p6.1.2.2 c1 = true then bnO (ast p6.1.2.2 103 r8 a3 c1) fun L9 => nm (wr (a3 + 1)) fun v11 => bnO (pf L9 c0 13 1 (V v11)) fun L12 => some ((p6.1.2.1, L12), 0, 0) else none)) else none) else (if okE L c1 = true then bnO (ast L 103 c2 a3 c1) fun L2 => nm (wr (a3 + 1)) fun v4 => bnO (pf L2 c0 13 1 (V v4)) fun L5 => some ((S, L5), 0, 0) else none)
theorem te_AL_add2 {sc : SC} {c0 : Nat} {c1 : Value} (hc1 : c1 = .null ∨ ∃ b, c1 = .ref b) {c2 : Nat} {a3 : Int} (ha3 : inR a3) {S : St} {L : List PC} {q : (LZ) × Nat × Nat} (h : gn_AL_add2 c0 c1 c2 a3 S L = some q) {mc ms k n : Nat} (hb : Bd k n mc ms q) : GX sc M_AL_add2 mc ms 0 [(0, .ref c0), (1, c1), (2, .ref c2), (3, V a3)] [] (wz (S, L)) k n (KXU q.1) := by
  unfold gn_AL_add2 at h
  refine x_iloadn (pc := 0) (i0 := 3) (j := 3) (dK D_AL_add2 0 rfl) rfl rfl ?_
  refine x_aloadn (pc := 1) (i0 := 2) (j := 2) (dK D_AL_add2 1 rfl) rfl rfl ?_
  refine bnE h ?_
  clear h
  intro v1 e_v1 h
  refine wx_alm (pc := 2) e_v1 (dK D_AL_add2 2 rfl) (fun i_v1 => ?_)
  refine wx_icmp_ne (pc := 3) (t := 11) (dK D_AL_add2 3 rfl) rfl ha3 i_v1 (fun hc13 => ?_) (fun hc13 => ?_)
  · replace h := ifN h hc13
    refine x_aloadn (pc := 11) (i0 := 2) (j := 2) (dK D_AL_add2 7 rfl) rfl rfl ?_
    refine x_iloadn (pc := 12) (i0 := 3) (j := 3) (dK D_AL_add2 8 rfl) rfl rfl ?_
    refine x_aloadnV (pc := 13) (i0 := 1) (j := 1) hc1 (dK D_AL_add2 9 rfl) rfl rfl ?_
    refine gdE h ?_
    clear h
    intro hk3 h
    refine bnE h ?_
    clear h
    intro L2 e_L2 h
    refine wx_aast (Z := (S, L)) (pc := 14) e_L2 hk3 ha3 (dK D_AL_add2 10 rfl) ?_
    refine x_aloadn (pc := 15) (i0 := 0) (j := 0) (dK D_AL_add2 11 rfl) rfl rfl ?_
    refine x_iloadn (pc := 16) (i0 := 3) (j := 3) (dK D_AL_add2 12 rfl) rfl rfl ?_
    refine wx_iconst (pc := 17) (dK D_AL_add2 13 rfl) ?_
    refine wx_iadd (pc := 18) (dK D_AL_add2 14 rfl) ?_
    refine nmE h ?_
    clear h
    intro v4 e_v4 h
    refine wtop e_v4 ?_
    refine bnE h ?_
    clear h
    intro L5 e_L5 h
    refine wx_put (Z := (S, L2)) (pc := 19) (ci := 13) (f := 1) e_L5 (dK D_AL_add2 15 rfl) q_755 (ltK rfl) (ltK rfl) rfl okInt ?_
    obtain rfl := Option.some.inj h
    exact wk_ret (pc := 22) (dK D_AL_add2 16 rfl) rfl (bdk hb) (bdn hb) ⟨rfl, rfl⟩
  · replace h := ifP h hc13
    refine x_aloadn (pc := 6) (i0 := 0) (j := 0) (dK D_AL_add2 4 rfl) rfl rfl ?_
    refine gdE h ?_
    clear h
    intro hk7 h
    refine bnE h ?_
    clear h
    intro p6 e_p6 h
    obtain ⟨yp6, h9, e9⟩ := adE2 h
    clear h
    subst e9
    have h := h9
    clear h9
    have hk1 := bd1 hb
    have hn1 := bd2 hb
    replace hb := bdA hb
    refine x_callX (pc := 7) (As := []) (rest := []) (mc' := p6.2.1) (ms' := p6.2.2) (dK D_AL_add2 5 rfl) Q_AL_129 sx_AL_grow (fitK rfl) (isK_at (Z := (S, L)) (ci := 13) hk7) rfl (leK rfl) hk1 hn1 (tg_AL_grow  e_p6) (kxR (fun h_p6 => ?_))
    refine x_astorenV (pc := 10) (i0 := 2) (ls2 := [(2, p6.1.1), (0, .ref c0), (1, c1), (3, V a3)]) h_p6 (dK D_AL_add2 6 rfl) rfl (ltK rfl) (by simp [stI, List.filter, cato hc1]) ?_
    refine x_aloadnV (pc := 11) (i0 := 2) (j := 0) h_p6 (dK D_AL_add2 7 rfl) rfl rfl ?_
    refine x_iloadn (pc := 12) (i0 := 3) (j := 3) (dK D_AL_add2 8 rfl) rfl rfl ?_
    refine x_aloadnV (pc := 13) (i0 := 1) (j := 2) hc1 (dK D_AL_add2 9 rfl) rfl rfl ?_
    refine rfE h ?_
    clear h
    intro r8 e_r8 h
    rw [e_r8]
    refine gdE h ?_
    clear h
    intro hk10 h
    refine bnE h ?_
    clear h
    intro L9 e_L9 h
    refine wx_aast (Z := (p6.1.2.1, p6.1.2.2)) (pc := 14) e_L9 hk10 ha3 (dK D_AL_add2 10 rfl) ?_
    refine x_aloadn (pc := 15) (i0 := 0) (j := 1) (dK D_AL_add2 11 rfl) rfl rfl ?_
    refine x_iloadn (pc := 16) (i0 := 3) (j := 3) (dK D_AL_add2 12 rfl) rfl rfl ?_
    refine wx_iconst (pc := 17) (dK D_AL_add2 13 rfl) ?_
    refine wx_iadd (pc := 18) (dK D_AL_add2 14 rfl) ?_
    refine nmE h ?_
    clear h
    intro v11 e_v11 h
    refine wtop e_v11 ?_
    refine bnE h ?_
    clear h
    intro L12 e_L12 h
    refine wx_put (Z := (p6.1.2.1, L9)) (pc := 19) (ci := 13) (f := 1) e_L12 (dK D_AL_add2 15 rfl) q_755 (ltK rfl) (ltK rfl) rfl okInt ?_
    obtain rfl := Option.some.inj h
    exact wk_ret (pc := 22) (dK D_AL_add2 16 rfl) rfl (bdk hb) (bdn hb) ⟨rfl, rfl⟩
theorem tg_AL_add2 {sc : SC} {c0 : Nat} {c1 : Value} (hc1 : c1 = .null ∨ ∃ b, c1 = .ref b) {c2 : Nat} {a3 : Int} (ha3 : inR a3) {S : St} {L : List PC} {q : (LZ) × Nat × Nat} (h : gn_AL_add2 c0 c1 c2 a3 S L = some q) : EvX sc M_AL_add2 [.ref c0, c1, .ref c2, V a3] (wz (S, L)) q.2.1 q.2.2 (KXU q.1) := by
  rcases hc1 with e_c1 | ⟨b_c1, e_c1⟩ <;> subst e_c1 <;>
  exact EvX.of pn2_AL rfl (leK rfl) (te_AL_add2 (by first | exact .inl rfl | exact .inr ⟨_, rfl⟩) ha3 h ⟨Nat.le_of_eq (Nat.zero_add _), Nat.le_of_eq (Nat.zero_add _)⟩)
def gn_AL_add (c0 : Nat) (c1 : Value) (S : St) (L : List PC) : Option ((Bool × LZ) × Nat × Nat) := bnO (gfI L c0 13 2) fun v1 => nm (wr (v1 + 1)) fun v2 => bnO (pf L c0 13 2 (V v2)) fun L3 => bnO (gfV L3 c0 13 0) fun v4 => bnO (gfI L3 c0 13 1) fun v5 => rfB v4 fun r6 => if isK L3 c0 13 = true then (bnO (gn_AL_add2 c0 c1 r6 v5 S L3) fun p7 => adC p7.2.1 p7.2.2 (some ((true, (p7.1.1, p7.1.2)), 0, 0))) else none
theorem te_AL_add {sc : SC} {c0 : Nat} {c1 : Value} (hc1 : c1 = .null ∨ ∃ b, c1 = .ref b) {S : St} {L : List PC} {q : (Bool × LZ) × Nat × Nat} (h : gn_AL_add c0 c1 S L = some q) {mc ms k n : Nat} (hb : Bd k n mc ms q) : GX sc M_AL_add mc ms 0 [(0, .ref c0), (1, c1)] [] (wz (S, L)) k n (KXB q.1.1 q.1.2) := by
  unfold gn_AL_add at h
  refine x_aloadn (pc := 0) (i0 := 0) (j := 0) (dK D_AL_add 0 rfl) rfl rfl ?_
  refine x_dup (pc := 1) (dK D_AL_add 1 rfl) rfl ?_
  refine bnE h ?_
  clear h
  intro v1 e_v1 h
  refine wx_getIR (pc := 2) (f := 2) e_v1 (dK D_AL_add 2 rfl) q_759 q_758 (ltK rfl) ?_
  refine wx_iconst (pc := 5) (dK D_AL_add 3 rfl) ?_
  refine wx_iadd (pc := 6) (dK D_AL_add 4 rfl) ?_
  refine nmE h ?_
  clear h
  intro v2 e_v2 h
  refine wtop e_v2 ?_
  refine bnE h ?_
  clear h
  intro L3 e_L3 h
  refine wx_putR (Z := (S, L)) (pc := 7) (ci := 13) (f := 2) e_L3 (dK D_AL_add 5 rfl) q_759 q_758 (ltK rfl) (ltK rfl) rfl okInt ?_
  refine x_aloadn (pc := 10) (i0 := 0) (j := 0) (dK D_AL_add 6 rfl) rfl rfl ?_
  refine x_aloadnV (pc := 11) (i0 := 1) (j := 1) hc1 (dK D_AL_add 7 rfl) rfl rfl ?_
  refine x_aloadn (pc := 12) (i0 := 0) (j := 0) (dK D_AL_add 8 rfl) rfl rfl ?_
  refine bnE h ?_
  clear h
  intro v4 e_v4 h
  refine wx_getV (pc := 13) (ci := 13) (f := 0) e_v4 (dK D_AL_add 9 rfl) q_752 (ltK rfl) (ltK rfl) (fun hv4 => ?_)
  refine x_aloadn (pc := 16) (i0 := 0) (j := 0) (dK D_AL_add 10 rfl) rfl rfl ?_
  refine bnE h ?_
  clear h
  intro v5 e_v5 h
  refine wx_getI (pc := 17) (ci := 13) (f := 1) e_v5 (dK D_AL_add 11 rfl) q_755 (ltK rfl) (ltK rfl) ?_
  refine rfE h ?_
  clear h
  intro r6 e_r6 h
  rw [e_r6]
  refine gdE h ?_
  clear h
  intro hk8 h
  refine bnE h ?_
  clear h
  intro p7 e_p7 h
  obtain ⟨yp7, h9, e9⟩ := adE2 h
  clear h
  subst e9
  have h := h9
  clear h9
  have hk1 := bd1 hb
  have hn1 := bd2 hb
  replace hb := bdA hb
  refine x_callX (pc := 20) (As := [c1, .ref r6, V v5]) (rest := []) (mc' := p7.2.1) (ms' := p7.2.2) (dK D_AL_add 12 rfl) Q_AL_131 sx_AL_add2 (fitK rfl) (isK_at (Z := (S, L3)) (ci := 13) hk8) rfl (leK rfl) hk1 hn1 (tg_AL_add2 hc1 (vI_at e_v5).2 e_p7) (kxU ?_)
  refine wx_iconst (pc := 23) (dK D_AL_add 13 rfl) ?_
  obtain rfl := Option.some.inj h
  exact wk_iretB (pc := 24) (b := true) (dK D_AL_add 14 rfl) rfl (bdk hb) (bdn hb) ⟨rfl, rfl⟩
theorem tg_AL_add {sc : SC} {c0 : Nat} {c1 : Value} (hc1 : c1 = .null ∨ ∃ b, c1 = .ref b) {S : St} {L : List PC} {q : (Bool × LZ) × Nat × Nat} (h : gn_AL_add c0 c1 S L = some q) : EvX sc M_AL_add [.ref c0, c1] (wz (S, L)) q.2.1 q.2.2 (KXB q.1.1 q.1.2) := by
  rcases hc1 with e_c1 | ⟨b_c1, e_c1⟩ <;> subst e_c1 <;>
  exact EvX.of pn2_AL rfl (leK rfl) (te_AL_add (by first | exact .inl rfl | exact .inr ⟨_, rfl⟩) h ⟨Nat.le_of_eq (Nat.zero_add _), Nat.le_of_eq (Nat.zero_add _)⟩)
def lb2_LP_copy_48 (c0 : Nat) (c1 : Nat) (c2 : Nat) (go : LZ → Option ((LZ) × Nat × Nat))  (S : St) (L : List PC) : Option ((LZ) × Nat × Nat) := if isK L c2 14 = true then (bnO (gn_Itr_hasNext c2 S L) fun p19 => if p19 = true then (if isK L c2 14 = true then (bnO (gn_Itr_next c2 S L) fun p22 => adC p22.2.1 p22.2.2 (rfB p22.1.1 fun r24 => if isK p22.1.2.2 r24 11 = true then (bnO (gfV p22.1.2.2 c1 12 4) fun v26 => if isK p22.1.2.2 r24 11 = true then (bnO (gn_LI_copy r24 p22.1.2.1 p22.1.2.2) fun p27 => adC p27.2.1 p27.2.2 (rfB v26 fun r29 => if isK p27.1.2.2 r29 13 = true then (bnO (gn_AL_add r29 p27.1.1 p27.1.2.1 p27.1.2.2) fun p30 => adC p30.2.1 p30.2.2 (go (p30.1.2.1, p30.1.2.2))) else none)) else none) else none)) else none) else (some ((S, L), 0, 0))) else none
def lo2_LP_copy_48 (c0 : Nat) (c1 : Nat) (c2 : Nat) : Nat → LZ → Option ((LZ) × Nat × Nat) := lp fun go p => lb2_LP_copy_48 c0 c1 c2 go p.1 p.2
theorem tl2_LP_copy_48 {sc : SC} {c0 : Nat} {c1 : Nat} {c2 : Nat} {K : Option Value → List PC → Prop} {mc ms kt nt : Nat} (hkt : kt ≤ mc) (hnt : nt ≤ ms) : ∀ (N : Nat) (a : LZ) (q : (LZ) × Nat × Nat), lo2_LP_copy_48 c0 c1 c2 N a = some q → ∀ k n, Bd k n kt nt q → (GX sc M_LP_copy mc ms 82 [(0, .ref c0), (1, .ref c1)] [] (wz q.1) kt nt K) → GX sc M_LP_copy mc ms 48 [(0, .ref c0), (1, .ref c1), (2, .ref c2)] [] (wz a) k n K := by
  refine lp_ind2 (P := fun (a : LZ) (q : (LZ) × Nat × Nat) => ∀ k n, Bd k n kt nt q → (GX sc M_LP_copy mc ms 82 [(0, .ref c0), (1, .ref c1)] [] (wz q.1) kt nt K) → GX sc M_LP_copy mc ms 48 [(0, .ref c0), (1, .ref c1), (2, .ref c2)] [] (wz a) k n K) (fun go ih a q h => ?_)
  obtain ⟨S, L⟩ := a
  intro k n hb hx
  show GX sc M_LP_copy mc ms 48 [(0, .ref c0), (1, .ref c1), (2, .ref c2)] [] (wz (S, L)) k n K
  replace h : lb2_LP_copy_48 c0 c1 c2 go S L = some q := h
  unfold lb2_LP_copy_48 at h
  refine x_aloadn (pc := 48) (i0 := 2) (j := 2) (dK D_LP_copy_0 24 rfl) rfl rfl ?_
  refine gdE h ?_
  clear h
  intro hk20 h
  refine bnE h ?_
  clear h
  intro p19 e_p19 h
  refine x_callF (pc := 49) (As := []) (rest := []) (mc' := 0) (ms' := 0) (dK D_LP_copy_0 25 rfl) LE_Itr_hasNext (List.mem_of_getElem? (i := 0) rfl) q_839 q_843 q_845 rfl q_820 (fitK rfl) (isK_at (Z := (S, L)) (ci := 14) hk20) rfl (leK rfl) (Nat.le_trans (bdk hb) hkt) (Nat.le_trans (bdn hb) hnt) (tg_Itr_hasNext  e_p19) (kxB' ?_)
  refine wx_ifB_eq (pc := 54) (b := p19) (t := 82) (dK D_LP_copy_0 26 rfl) rfl (fun hc21 => ?_) (fun hc21 => ?_)
  · replace h := ifP h hc21
    refine x_aloadn (pc := 57) (i0 := 2) (j := 2) (dK D_LP_copy_0 27 rfl) rfl rfl ?_
    refine gdE h ?_
    clear h
    intro hk23 h
    refine bnE h ?_
    clear h
    intro p22 e_p22 h
    obtain ⟨yp22, h9, e9⟩ := adE2 h
    clear h
    subst e9
    have h := h9
    clear h9
    have hk1 := Nat.le_trans (bd1 hb) hkt
    have hn1 := Nat.le_trans (bd2 hb) hnt
    replace hb := bdA hb
    refine x_callF (pc := 58) (As := []) (rest := []) (mc' := p22.2.1) (ms' := p22.2.2) (dK D_LP_copy_0 28 rfl) LE_Itr_next (List.mem_of_getElem? (i := 1) rfl) q_849 q_852 q_854 rfl q_820 (fitK rfl) (isK_at (Z := (S, L)) (ci := 14) hk23) rfl (leK rfl) hk1 hn1 (tg_Itr_next  e_p22) (kxR (fun h_p22 => ?_))
    refine rfE h ?_
    clear h
    intro r24 e_r24 h
    rw [e_r24]
    refine gdE h ?_
    clear h
    intro hk25 h
    refine x_cast (pc := 63) (dK D_LP_copy_0 29 rfl) q_861 (isK_at (Z := (p22.1.2.1, p22.1.2.2)) (ci := 11) hk25) ?_
    refine x_astoren (pc := 66) (i0 := 3) (ls2 := [(3, .ref r24), (0, .ref c0), (1, .ref c1), (2, .ref c2)]) (dK D_LP_copy_0 30 rfl) rfl (ltK rfl) rfl ?_
    refine x_aloadn (pc := 67) (i0 := 1) (j := 2) (dK D_LP_copy_0 31 rfl) rfl rfl ?_
    refine bnE h ?_
    clear h
    intro v26 e_v26 h
    refine wx_getV (pc := 68) (ci := 12) (f := 4) e_v26 (dK D_LP_copy_0 32 rfl) q_775 (ltK rfl) (ltK rfl) (fun hv26 => ?_)
    refine x_aloadn (pc := 71) (i0 := 3) (j := 0) (dK D_LP_copy_0 33 rfl) rfl rfl ?_
    refine gdE h ?_
    clear h
    intro hk28 h
    refine bnE h ?_
    clear h
    intro p27 e_p27 h
    obtain ⟨yp27, h9, e9⟩ := adE2 h
    clear h
    subst e9
    have h := h9
    clear h9
    have hk1 := Nat.le_trans (bd1 hb) hkt
    have hn1 := Nat.le_trans (bd2 hb) hnt
    replace hb := bdA hb
    refine x_callX (pc := 72) (As := []) (rest := [v26]) (mc' := p27.2.1) (ms' := p27.2.2) (dK D_LP_copy_0 34 rfl) Q_LP_65 sx_LI_copy (fitK rfl) (isK_at (Z := (p22.1.2.1, p22.1.2.2)) (ci := 11) hk28) rfl (by simp only [List.map_cons, List.map_nil, cato hv26]; exact leK rfl) hk1 hn1 (tg_LI_copy  e_p27) (kxR (fun h_p27 => ?_))
    refine rfE h ?_
    clear h
    intro r29 e_r29 h
    rw [e_r29]
    refine gdE h ?_
    clear h
    intro hk31 h
    refine bnE h ?_
    clear h
    intro p30 e_p30 h
    obtain ⟨yp30, h9, e9⟩ := adE2 h
    clear h
    subst e9
    have h := h9
    clear h9
    have hk1 := Nat.le_trans (bd1 hb) hkt
    have hn1 := Nat.le_trans (bd2 hb) hnt
    replace hb := bdA hb
    refine x_callX (pc := 75) (As := [p27.1.1]) (rest := []) (mc' := p30.2.1) (ms' := p30.2.2) (dK D_LP_copy_0 35 rfl) Q_LP_69 sx_AL_add (fitK rfl) (isK_at (Z := (p27.1.2.1, p27.1.2.2)) (ci := 13) hk31) rfl (leK rfl) hk1 hn1 (tg_AL_add h_p27 e_p30) (kxB' ?_)
    refine x_pop (pc := 78) (dK D_LP_copy_0 36 rfl) rfl ?_
    refine x_goto (pc := 79) (tgt := 48) (dK D_LP_copy_0 37 rfl) rfl ?_
    refine x_weak (ls' := [(0, .ref c0), (1, .ref c1), (2, .ref c2)]) (sbc 1 rfl (sbc 2 rfl (sbc 3 rfl sbn))) ?_
    replace h := ih _ _ h
    exact h _ _ hb hx
  · replace h := ifN h hc21
    obtain rfl := Option.some.inj h
    refine x_weak (ls' := [(0, .ref c0), (1, .ref c1)]) (sbc 0 rfl (sbc 1 rfl sbn)) ?_
    refine x_room (bdk hb) (bdn hb) ?_
    exact hx 
def lb2_LP_copy_90 (c0 : Nat) (c1 : Nat) (c2 : Nat) (go : LZ → Option ((LZ) × Nat × Nat))  (S : St) (L : List PC) : Option ((LZ) × Nat × Nat) := if isK L c2 14 = true then (bnO (gn_Itr_hasNext c2 S L) fun p38 => if p38 = true then (if isK L c2 14 = true then (bnO (gn_Itr_next c2 S L) fun p41 => adC p41.2.1 p41.2.2 (rfB p41.1.1 fun r43 => if isK p41.1.2.2 r43 11 = true then (bnO (gfV p41.1.2.2 c1 12 5) fun v45 => if isK p41.1.2.2 r43 11 = true then (bnO (gn_LI_copy r43 p41.1.2.1 p41.1.2.2) fun p46 => adC p46.2.1 p46.2.2 (rfB v45 fun r48 => if isK p46.1.2.2 r48 13 = true then (bnO (gn_AL_add r48 p46.1.1 p46.1.2.1 p46.1.2.2) fun p49 => adC p49.2.1 p49.2.2 (go (p49.1.2.1, p49.1.2.2))) else none)) else none) else none)) else none) else (some ((S, L), 0, 0))) else none
def lo2_LP_copy_90 (c0 : Nat) (c1 : Nat) (c2 : Nat) : Nat → LZ → Option ((LZ) × Nat × Nat) := lp fun go p => lb2_LP_copy_90 c0 c1 c2 go p.1 p.2
theorem tl2_LP_copy_90 {sc : SC} {c0 : Nat} {c1 : Nat} {c2 : Nat} {K : Option Value → List PC → Prop} {mc ms kt nt : Nat} (hkt : kt ≤ mc) (hnt : nt ≤ ms) : ∀ (N : Nat) (a : LZ) (q : (LZ) × Nat × Nat), lo2_LP_copy_90 c0 c1 c2 N a = some q → ∀ k n, Bd k n kt nt q → (GX sc M_LP_copy mc ms 124 [(0, .ref c0), (1, .ref c1)] [] (wz q.1) kt nt K) → GX sc M_LP_copy mc ms 90 [(0, .ref c0), (1, .ref c1), (2, .ref c2)] [] (wz a) k n K := by
  refine lp_ind2 (P := fun (a : LZ) (q : (LZ) × Nat × Nat) => ∀ k n, Bd k n kt nt q → (GX sc M_LP_copy mc ms 124 [(0, .ref c0), (1, .ref c1)] [] (wz q.1) kt nt K) → GX sc M_LP_copy mc ms 90 [(0, .ref c0), (1, .ref c1), (2, .ref c2)] [] (wz a) k n K) (fun go ih a q h => ?_)
  obtain ⟨S, L⟩ := a
  intro k n hb hx
  show GX sc M_LP_copy mc ms 90 [(0, .ref c0), (1, .ref c1), (2, .ref c2)] [] (wz (S, L)) k n K
  replace h : lb2_LP_copy_90 c0 c1 c2 go S L = some q := h
  unfold lb2_LP_copy_90 at h
  refine x_aloadn (pc := 90) (i0 := 2) (j := 2) (dK D_LP_copy_0 42 rfl) rfl rfl ?_
  refine gdE h ?_
  clear h
  intro hk39 h
  refine bnE h ?_
  clear h
  intro p38 e_p38 h
  refine x_callF (pc := 91) (As := []) (rest := []) (mc' := 0) (ms' := 0) (dK D_LP_copy_0 43 rfl) LE_Itr_hasNext (List.mem_of_getElem? (i := 0) rfl) q_839 q_843 q_845 rfl q_820 (fitK rfl) (isK_at (Z := (S, L)) (ci := 14) hk39) rfl (leK rfl) (Nat.le_trans (bdk hb) hkt) (Nat.le_trans (bdn hb) hnt) (tg_Itr_hasNext  e_p38) (kxB' ?_)
  refine wx_ifB_eq (pc := 96) (b := p38) (t := 124) (dK D_LP_copy_0 44 rfl) rfl (fun hc40 => ?_) (fun hc40 => ?_)
  · replace h := ifP h hc40
    refine x_aloadn (pc := 99) (i0 := 2) (j := 2) (dK D_LP_copy_0 45 rfl) rfl rfl ?_
    refine gdE h ?_
    clear h
    intro hk42 h
    refine bnE h ?_
    clear h
    intro p41 e_p41 h
    obtain ⟨yp41, h9, e9⟩ := adE2 h
    clear h
    subst e9
    have h := h9
    clear h9
    have hk1 := Nat.le_trans (bd1 hb) hkt
    have hn1 := Nat.le_trans (bd2 hb) hnt
    replace hb := bdA hb
    refine x_callF (pc := 100) (As := []) (rest := []) (mc' := p41.2.1) (ms' := p41.2.2) (dK D_LP_copy_0 46 rfl) LE_Itr_next (List.mem_of_getElem? (i := 1) rfl) q_849 q_852 q_854 rfl q_820 (fitK rfl) (isK_at (Z := (S, L)) (ci := 14) hk42) rfl (leK rfl) hk1 hn1 (tg_Itr_next  e_p41) (kxR (fun h_p41 => ?_))
    refine rfE h ?_
    clear h
    intro r43 e_r43 h
    rw [e_r43]
    refine gdE h ?_
    clear h
    intro hk44 h
    refine x_cast (pc := 105) (dK D_LP_copy_0 47 rfl) q_861 (isK_at (Z := (p41.1.2.1, p41.1.2.2)) (ci := 11) hk44) ?_
    refine x_astoren (pc := 108) (i0 := 3) (ls2 := [(3, .ref r43), (0, .ref c0), (1, .ref c1), (2, .ref c2)]) (dK D_LP_copy_0 48 rfl) rfl (ltK rfl) rfl ?_
    refine x_aloadn (pc := 109) (i0 := 1) (j := 2) (dK D_LP_copy_0 49 rfl) rfl rfl ?_
    refine bnE h ?_
    clear h
    intro v45 e_v45 h
    refine wx_getV (pc := 110) (ci := 12) (f := 5) e_v45 (dK D_LP_copy_1 0 rfl) q_777 (ltK rfl) (ltK rfl) (fun hv45 => ?_)
    refine x_aloadn (pc := 113) (i0 := 3) (j := 0) (dK D_LP_copy_1 1 rfl) rfl rfl ?_
    refine gdE h ?_
    clear h
    intro hk47 h
    refine bnE h ?_
    clear h
    intro p46 e_p46 h
    obtain ⟨yp46, h9, e9⟩ := adE2 h
    clear h
    subst e9
    have h := h9
    clear h9
    have hk1 := Nat.le_trans (bd1 hb) hkt
    have hn1 := Nat.le_trans (bd2 hb) hnt
    replace hb := bdA hb
    refine x_callX (pc := 114) (As := []) (rest := [v45]) (mc' := p46.2.1) (ms' := p46.2.2) (dK D_LP_copy_1 2 rfl) Q_LP_65 sx_LI_copy (fitK rfl) (isK_at (Z := (p41.1.2.1, p41.1.2.2)) (ci := 11) hk47) rfl (by simp only [List.map_cons, List.map_nil, cato hv45]; exact leK rfl) hk1 hn1 (tg_LI_copy  e_p46) (kxR (fun h_p46 => ?_))
    refine rfE h ?_
    clear h
    intro r48 e_r48 h
    rw [e_r48]
    refine gdE h ?_
    clear h
    intro hk50 h
    refine bnE h ?_
    clear h
    intro p49 e_p49 h
    obtain ⟨yp49, h9, e9⟩ := adE2 h
    clear h
    subst e9
    have h := h9
    clear h9
    have hk1 := Nat.le_trans (bd1 hb) hkt
    have hn1 := Nat.le_trans (bd2 hb) hnt
    replace hb := bdA hb
    refine x_callX (pc := 117) (As := [p46.1.1]) (rest := []) (mc' := p49.2.1) (ms' := p49.2.2) (dK D_LP_copy_1 3 rfl) Q_LP_69 sx_AL_add (fitK rfl) (isK_at (Z := (p46.1.2.1, p46.1.2.2)) (ci := 13) hk50) rfl (leK rfl) hk1 hn1 (tg_AL_add h_p46 e_p49) (kxB' ?_)
    refine x_pop (pc := 120) (dK D_LP_copy_1 4 rfl) rfl ?_
    refine x_goto (pc := 121) (tgt := 90) (dK D_LP_copy_1 5 rfl) rfl ?_
    refine x_weak (ls' := [(0, .ref c0), (1, .ref c1), (2, .ref c2)]) (sbc 1 rfl (sbc 2 rfl (sbc 3 rfl sbn))) ?_
    replace h := ih _ _ h
    exact h _ _ hb hx
  · replace h := ifN h hc40
    obtain rfl := Option.some.inj h
    refine x_weak (ls' := [(0, .ref c0), (1, .ref c1)]) (sbc 0 rfl (sbc 1 rfl sbn)) ?_
    refine x_room (bdk hb) (bdn hb) ?_
    exact hx 
def lb2_LP_copy_132 (c0 : Nat) (c1 : Nat) (c2 : Nat) (go : LZ → Option ((LZ) × Nat × Nat))  (S : St) (L : List PC) : Option ((LZ) × Nat × Nat) := if isK L c2 14 = true then (bnO (gn_Itr_hasNext c2 S L) fun p57 => if p57 = true then (if isK L c2 14 = true then (bnO (gn_Itr_next c2 S L) fun p60 => adC p60.2.1 p60.2.2 (rfB p60.1.1 fun r62 => if isK p60.1.2.2 r62 11 = true then (bnO (gfV p60.1.2.2 c1 12 6) fun v64 => if isK p60.1.2.2 r62 11 = true then (bnO (gn_LI_copy r62 p60.1.2.1 p60.1.2.2) fun p65 => adC p65.2.1 p65.2.2 (rfB v64 fun r67 => if isK p65.1.2.2 r67 13 = true then (bnO (gn_AL_add r67 p65.1.1 p65.1.2.1 p65.1.2.2) fun p68 => adC p68.2.1 p68.2.2 (go (p68.1.2.1, p68.1.2.2))) else none)) else none) else none)) else none) else (some ((S, L), 0, 0))) else none
def lo2_LP_copy_132 (c0 : Nat) (c1 : Nat) (c2 : Nat) : Nat → LZ → Option ((LZ) × Nat × Nat) := lp fun go p => lb2_LP_copy_132 c0 c1 c2 go p.1 p.2
theorem tl2_LP_copy_132 {sc : SC} {c0 : Nat} {c1 : Nat} {c2 : Nat} {K : Option Value → List PC → Prop} {mc ms kt nt : Nat} (hkt : kt ≤ mc) (hnt : nt ≤ ms) : ∀ (N : Nat) (a : LZ) (q : (LZ) × Nat × Nat), lo2_LP_copy_132 c0 c1 c2 N a = some q → ∀ k n, Bd k n kt nt q → (GX sc M_LP_copy mc ms 166 [(0, .ref c0), (1, .ref c1)] [] (wz q.1) kt nt K) → GX sc M_LP_copy mc ms 132 [(0, .ref c0), (1, .ref c1), (2, .ref c2)] [] (wz a) k n K := by
  refine lp_ind2 (P := fun (a : LZ) (q : (LZ) × Nat × Nat) => ∀ k n, Bd k n kt nt q → (GX sc M_LP_copy mc ms 166 [(0, .ref c0), (1, .ref c1)] [] (wz q.1) kt nt K) → GX sc M_LP_copy mc ms 132 [(0, .ref c0), (1, .ref c1), (2, .ref c2)] [] (wz a) k n K) (fun go ih a q h => ?_)
  obtain ⟨S, L⟩ := a
  intro k n hb hx
  show GX sc M_LP_copy mc ms 132 [(0, .ref c0), (1, .ref c1), (2, .ref c2)] [] (wz (S, L)) k n K
  replace h : lb2_LP_copy_132 c0 c1 c2 go S L = some q := h
  unfold lb2_LP_copy_132 at h
  refine x_aloadn (pc := 132) (i0 := 2) (j := 2) (dK D_LP_copy_1 10 rfl) rfl rfl ?_
  refine gdE h ?_
  clear h
  intro hk58 h
  refine bnE h ?_
  clear h
  intro p57 e_p57 h
  refine x_callF (pc := 133) (As := []) (rest := []) (mc' := 0) (ms' := 0) (dK D_LP_copy_1 11 rfl) LE_Itr_hasNext (List.mem_of_getElem? (i := 0) rfl) q_839 q_843 q_845 rfl q_820 (fitK rfl) (isK_at (Z := (S, L)) (ci := 14) hk58) rfl (leK rfl) (Nat.le_trans (bdk hb) hkt) (Nat.le_trans (bdn hb) hnt) (tg_Itr_hasNext  e_p57) (kxB' ?_)
  refine wx_ifB_eq (pc := 138) (b := p57) (t := 166) (dK D_LP_copy_1 12 rfl) rfl (fun hc59 => ?_) (fun hc59 => ?_)
  · replace h := ifP h hc59
    refine x_aloadn (pc := 141) (i0 := 2) (j := 2) (dK D_LP_copy_1 13 rfl) rfl rfl ?_
    refine gdE h ?_
    clear h
    intro hk61 h
    refine bnE h ?_
    clear h
    intro p60 e_p60 h
    obtain ⟨yp60, h9, e9⟩ := adE2 h
    clear h
    subst e9
    have h := h9
    clear h9
    have hk1 := Nat.le_trans (bd1 hb) hkt
    have hn1 := Nat.le_trans (bd2 hb) hnt
    replace hb := bdA hb
    refine x_callF (pc := 142) (As := []) (rest := []) (mc' := p60.2.1) (ms' := p60.2.2) (dK D_LP_copy_1 14 rfl) LE_Itr_next (List.mem_of_getElem? (i := 1) rfl) q_849 q_852 q_854 rfl q_820 (fitK rfl) (isK_at (Z := (S, L)) (ci := 14) hk61) rfl (leK rfl) hk1 hn1 (tg_Itr_next  e_p60) (kxR (fun h_p60 => ?_))
    refine rfE h ?_
    clear h
    intro r62 e_r62 h
    rw [e_r62]
    refine gdE h ?_
    clear h
    intro hk63 h
    refine x_cast (pc := 147) (dK D_LP_copy_1 15 rfl) q_861 (isK_at (Z := (p60.1.2.1, p60.1.2.2)) (ci := 11) hk63) ?_
    refine x_astoren (pc := 150) (i0 := 3) (ls2 := [(3, .ref r62), (0, .ref c0), (1, .ref c1), (2, .ref c2)]) (dK D_LP_copy_1 16 rfl) rfl (ltK rfl) rfl ?_
    refine x_aloadn (pc := 151) (i0 := 1) (j := 2) (dK D_LP_copy_1 17 rfl) rfl rfl ?_
    refine bnE h ?_
    clear h
    intro v64 e_v64 h
    refine wx_getV (pc := 152) (ci := 12) (f := 6) e_v64 (dK D_LP_copy_1 18 rfl) q_779 (ltK rfl) (ltK rfl) (fun hv64 => ?_)
    refine x_aloadn (pc := 155) (i0 := 3) (j := 0) (dK D_LP_copy_1 19 rfl) rfl rfl ?_
    refine gdE h ?_
    clear h
    intro hk66 h
    refine bnE h ?_
    clear h
    intro p65 e_p65 h
    obtain ⟨yp65, h9, e9⟩ := adE2 h
    clear h
    subst e9
    have h := h9
    clear h9
    have hk1 := Nat.le_trans (bd1 hb) hkt
    have hn1 := Nat.le_trans (bd2 hb) hnt
    replace hb := bdA hb
    refine x_callX (pc := 156) (As := []) (rest := [v64]) (mc' := p65.2.1) (ms' := p65.2.2) (dK D_LP_copy_1 20 rfl) Q_LP_65 sx_LI_copy (fitK rfl) (isK_at (Z := (p60.1.2.1, p60.1.2.2)) (ci := 11) hk66) rfl (by simp only [List.map_cons, List.map_nil, cato hv64]; exact leK rfl) hk1 hn1 (tg_LI_copy  e_p65) (kxR (fun h_p65 => ?_))
    refine rfE h ?_
    clear h
    intro r67 e_r67 h
    rw [e_r67]
    refine gdE h ?_
    clear h
    intro hk69 h
    refine bnE h ?_
    clear h
    intro p68 e_p68 h
    obtain ⟨yp68, h9, e9⟩ := adE2 h
    clear h
    subst e9
    have h := h9
    clear h9
    have hk1 := Nat.le_trans (bd1 hb) hkt
    have hn1 := Nat.le_trans (bd2 hb) hnt
    replace hb := bdA hb
    refine x_callX (pc := 159) (As := [p65.1.1]) (rest := []) (mc' := p68.2.1) (ms' := p68.2.2) (dK D_LP_copy_1 21 rfl) Q_LP_69 sx_AL_add (fitK rfl) (isK_at (Z := (p65.1.2.1, p65.1.2.2)) (ci := 13) hk69) rfl (leK rfl) hk1 hn1 (tg_AL_add h_p65 e_p68) (kxB' ?_)
    refine x_pop (pc := 162) (dK D_LP_copy_1 22 rfl) rfl ?_
    refine x_goto (pc := 163) (tgt := 132) (dK D_LP_copy_1 23 rfl) rfl ?_
    refine x_weak (ls' := [(0, .ref c0), (1, .ref c1), (2, .ref c2)]) (sbc 1 rfl (sbc 2 rfl (sbc 3 rfl sbn))) ?_
    replace h := ih _ _ h
    exact h _ _ hb hx
  · replace h := ifN h hc59
    obtain rfl := Option.some.inj h
    refine x_weak (ls' := [(0, .ref c0), (1, .ref c1)]) (sbc 0 rfl (sbc 1 rfl sbn)) ?_
    refine x_room (bdk hb) (bdn hb) ?_
    exact hx 
def gn_LP_copy (c0 : Nat) (S : St) (L : List PC) : Option ((Value × LZ) × Nat × Nat) := if L.length < 900000000 then adC 1 10 (nw L (12, dfl 12) fun r2 L3 => bnO (gn_LP_init r2 S L3) fun p5 => adC p5.2.1 p5.2.2 (bnO (gfI p5.1.2 c0 12 0) fun v6 => bnO (pf p5.1.2 r2 12 0 (V v6)) fun L7 => bnO (gfI L7 c0 12 1) fun v8 => bnO (pf L7 r2 12 1 (V v8)) fun L9 => bnO (gfI L9 c0 12 2) fun v10 => bnO (pf L9 r2 12 2 (V v10)) fun L11 => bnO (gfI L11 c0 12 3) fun v12 => bnO (pf L11 r2 12 3 (V v12)) fun L13 => bnO (gfV L13 c0 12 4) fun v14 => rfB v14 fun r15 => if isK L13 r15 13 = true then (bnO (gn_AL_iterator r15 p5.1.1 L13) fun p16 => adC p16.2.1 p16.2.2 (rfB p16.1.1 fun r18 => bnO (lo2_LP_copy_48 c0 r2 r18 FU (p16.1.2.1, p16.1.2.2)) fun p32 => adC p32.2.1 p32.2.2 (bnO (gfV p32.1.2 c0 12 5) fun v33 => rfB v33 fun r34 => if isK p32.1.2 r34 13 = true then (bnO (gn_AL_iterator r34 p32.1.1 p32.1.2) fun p35 => adC p35.2.1 p35.2.2 (rfB p35.1.1 fun r37 => bnO (lo2_LP_copy_90 c0 r2 r37 FU (p35.1.2.1, p35.1.2.2)) fun p51 => adC p51.2.1 p51.2.2 (bnO (gfV p51.1.2 c0 12 6) fun v52 => rfB v52 fun r53 => if isK p51.1.2 r53 13 = true then (bnO (gn_AL_iterator r53 p51.1.1 p51.1.2) fun p54 => adC p54.2.1 p54.2.2 (rfB p54.1.1 fun r56 => bnO (lo2_LP_copy_132 c0 r2 r56 FU (p54.1.2.1, p54.1.2.2)) fun p70 => adC p70.2.1 p70.2.2 (bnO (gfV p70.1.2 c0 12 7) fun v71 => rfB v71 fun r72 => bnO (cln p70.1.2 2 r72) fun vs73 => if p70.1.2.length < 900000000 then adC 1 vs73.length (nw p70.1.2 (102, vs73) fun r76 L77 => if isA L77 r76 2 = true then (bnO (pf L77 r2 12 7 (.ref r76)) fun L79 => bnO (gfV L79 c0 12 8) fun v80 => rfB v80 fun r81 => bnO (cln L79 2 r81) fun vs82 => if L79.length < 900000000 then adC 1 vs82.length (nw L79 (102, vs82) fun r85 L86 => if isA L86 r85 2 = true then (bnO (pf L86 r2 12 8 (.ref r85)) fun L88 => bnO (gfV L88 c0 12 9) fun v89 => rfB v89 fun r90 => bnO (cln L88 0 r90) fun vs91 => if L88.length < 900000000 then adC 1 vs91.length (nw L88 (100, vs91) fun r94 L95 => if isA L95 r94 0 = true then (bnO (pf L95 r2 12 9 (.ref r94)) fun L97 => some (((.ref r2), (p70.1.1, L97)), 0, 0)) else none) else none) else none) else none) else none) else none))) else none))) else none))) else none)) else none
theorem te_LP_copy {sc : SC} {c0 : Nat} {S : St} {L : List PC} {q : (Value × LZ) × Nat × Nat} (h : gn_LP_copy c0 S L = some q) {mc ms k n : Nat} (hb : Bd k n mc ms q) : GX sc M_LP_copy mc ms 0 [(0, .ref c0)] [] (wz (S, L)) k n (KXR q.1.1 q.1.2) := by
  unfold gn_LP_copy at h
  refine gdE h ?_
  clear h
  intro hl1 h
  obtain ⟨y4, h9, e9⟩ := adE2 h
  clear h
  subst e9
  have h := h9
  clear h9
  refine nwE h ?_
  clear h
  intro r2 L3 e_r2 e_L3 h
  have hk1 := bd1 hb
  have hn1 := bd2 hb
  replace hb := bdA hb
  refine wn_new (Z := (S, L)) (pc := 0) (ci := 12) (N := 10) e_r2 e_L3 hl1 rfl (dK D_LP_copy_0 0 rfl) (ltK rfl) q_813 q_733 q_14 hk1 hn1 ?_
  refine x_dup (pc := 3) (dK D_LP_copy_0 1 rfl) rfl ?_
  refine bnE h ?_
  clear h
  intro p5 e_p5 h
  obtain ⟨yp5, h9, e9⟩ := adE2 h
  clear h
  subst e9
  have h := h9
  clear h9
  have hk1 := bd1 hb
  have hn1 := bd2 hb
  replace hb := bdA hb
  refine x_callI (pc := 4) (As := []) (rest := [.ref r2]) (mc' := p5.2.1) (ms' := p5.2.2) (dK D_LP_copy_0 2 rfl) Q_LP_42 (fitK rfl) rfl (leK rfl) hk1 hn1 (tg_LP_init  e_p5) (kxU ?_)
  refine x_astoren (pc := 7) (i0 := 1) (ls2 := [(1, .ref r2), (0, .ref c0)]) (dK D_LP_copy_0 3 rfl) rfl (ltK rfl) rfl ?_
  refine x_aloadn (pc := 8) (i0 := 1) (j := 0) (dK D_LP_copy_0 4 rfl) rfl rfl ?_
  refine x_aloadn (pc := 9) (i0 := 0) (j := 1) (dK D_LP_copy_0 5 rfl) rfl rfl ?_
  refine bnE h ?_
  clear h
  intro v6 e_v6 h
  refine wx_getI (pc := 10) (ci := 12) (f := 0) e_v6 (dK D_LP_copy_0 6 rfl) q_767 (ltK rfl) (ltK rfl) ?_
  refine bnE h ?_
  clear h
  intro L7 e_L7 h
  refine wx_put (Z := (p5.1.1, p5.1.2)) (pc := 13) (ci := 12) (f := 0) e_L7 (dK D_LP_copy_0 7 rfl) q_767 (ltK rfl) (ltK rfl) rfl okInt ?_
  refine x_aloadn (pc := 16) (i0 := 1) (j := 0) (dK D_LP_copy_0 8 rfl) rfl rfl ?_
  refine x_aloadn (pc := 17) (i0 := 0) (j := 1) (dK D_LP_copy_0 9 rfl) rfl rfl ?_
  refine bnE h ?_
  clear h
  intro v8 e_v8 h
  refine wx_getI (pc := 18) (ci := 12) (f := 1) e_v8 (dK D_LP_copy_0 10 rfl) q_769 (ltK rfl) (ltK rfl) ?_
  refine bnE h ?_
  clear h
  intro L9 e_L9 h
  refine wx_put (Z := (p5.1.1, L7)) (pc := 21) (ci := 12) (f := 1) e_L9 (dK D_LP_copy_0 11 rfl) q_769 (ltK rfl) (ltK rfl) rfl okInt ?_
  refine x_aloadn (pc := 24) (i0 := 1) (j := 0) (dK D_LP_copy_0 12 rfl) rfl rfl ?_
  refine x_aloadn (pc := 25) (i0 := 0) (j := 1) (dK D_LP_copy_0 13 rfl) rfl rfl ?_
  refine bnE h ?_
  clear h
  intro v10 e_v10 h
  refine wx_getI (pc := 26) (ci := 12) (f := 2) e_v10 (dK D_LP_copy_0 14 rfl) q_771 (ltK rfl) (ltK rfl) ?_
  refine bnE h ?_
  clear h
  intro L11 e_L11 h
  refine wx_put (Z := (p5.1.1, L9)) (pc := 29) (ci := 12) (f := 2) e_L11 (dK D_LP_copy_0 15 rfl) q_771 (ltK rfl) (ltK rfl) rfl okInt ?_
  refine x_aloadn (pc := 32) (i0 := 1) (j := 0) (dK D_LP_copy_0 16 rfl) rfl rfl ?_
  refine x_aloadn (pc := 33) (i0 := 0) (j := 1) (dK D_LP_copy_0 17 rfl) rfl rfl ?_
  refine bnE h ?_
  clear h
  intro v12 e_v12 h
  refine wx_getI (pc := 34) (ci := 12) (f := 3) e_v12 (dK D_LP_copy_0 18 rfl) q_773 (ltK rfl) (ltK rfl) ?_
  refine bnE h ?_
  clear h
  intro L13 e_L13 h
  refine wx_put (Z := (p5.1.1, L11)) (pc := 37) (ci := 12) (f := 3) e_L13 (dK D_LP_copy_0 19 rfl) q_773 (ltK rfl) (ltK rfl) rfl okInt ?_
  refine x_aloadn (pc := 40) (i0 := 0) (j := 1) (dK D_LP_copy_0 20 rfl) rfl rfl ?_
  refine bnE h ?_
  clear h
  intro v14 e_v14 h
  refine wx_getV (pc := 41) (ci := 12) (f := 4) e_v14 (dK D_LP_copy_0 21 rfl) q_775 (ltK rfl) (ltK rfl) (fun hv14 => ?_)
  refine rfE h ?_
  clear h
  intro r15 e_r15 h
  rw [e_r15]
  refine gdE h ?_
  clear h
  intro hk17 h
  refine bnE h ?_
  clear h
  intro p16 e_p16 h
  obtain ⟨yp16, h9, e9⟩ := adE2 h
  clear h
  subst e9
  have h := h9
  clear h9
  have hk1 := bd1 hb
  have hn1 := bd2 hb
  replace hb := bdA hb
  refine x_callX (pc := 44) (As := []) (rest := []) (mc' := p16.2.1) (ms' := p16.2.2) (dK D_LP_copy_0 22 rfl) Q_LP_49 sx_AL_iterator (fitK rfl) (isK_at (Z := (p5.1.1, L13)) (ci := 13) hk17) rfl (leK rfl) hk1 hn1 (tg_AL_iterator  e_p16) (kxR (fun h_p16 => ?_))
  refine x_astorenV (pc := 47) (i0 := 2) (ls2 := [(2, p16.1.1), (1, .ref r2), (0, .ref c0)]) h_p16 (dK D_LP_copy_0 23 rfl) rfl (ltK rfl) rfl ?_
  refine rfE h ?_
  clear h
  intro r18 e_r18 h
  rw [e_r18]
  refine bnE h ?_
  clear h
  intro p32 e_p32 h
  obtain ⟨yp32, h9, e9⟩ := adE2 h
  clear h
  subst e9
  have h := h9
  clear h9
  have hk1 := bd1 hb
  have hn1 := bd2 hb
  replace hb := bdA hb
  refine x_weak (ls' := [(0, .ref c0), (1, .ref r2), (2, .ref r18)]) (sbc 2 rfl (sbc 1 rfl (sbc 0 rfl sbn))) ?_
  refine tl2_LP_copy_48  hk1 hn1 FU _ _ e_p32 _ _ ⟨Nat.le_refl _, Nat.le_refl _⟩  ?_
  refine x_aloadn (pc := 82) (i0 := 0) (j := 0) (dK D_LP_copy_0 38 rfl) rfl rfl ?_
  refine bnE h ?_
  clear h
  intro v33 e_v33 h
  refine wx_getV (pc := 83) (ci := 12) (f := 5) e_v33 (dK D_LP_copy_0 39 rfl) q_777 (ltK rfl) (ltK rfl) (fun hv33 => ?_)
  refine rfE h ?_
  clear h
  intro r34 e_r34 h
  rw [e_r34]
  refine gdE h ?_
  clear h
  intro hk36 h
  refine bnE h ?_
  clear h
  intro p35 e_p35 h
  obtain ⟨yp35, h9, e9⟩ := adE2 h
  clear h
  subst e9
  have h := h9
  clear h9
  have hk1 := bd1 hb
  have hn1 := bd2 hb
  replace hb := bdA hb
  refine x_callX (pc := 86) (As := []) (rest := []) (mc' := p35.2.1) (ms' := p35.2.2) (dK D_LP_copy_0 40 rfl) Q_LP_49 sx_AL_iterator (fitK rfl) (isK_at (Z := (p32.1.1, p32.1.2)) (ci := 13) hk36) rfl (leK rfl) hk1 hn1 (tg_AL_iterator  e_p35) (kxR (fun h_p35 => ?_))
  refine x_astorenV (pc := 89) (i0 := 2) (ls2 := [(2, p35.1.1), (0, .ref c0), (1, .ref r2)]) h_p35 (dK D_LP_copy_0 41 rfl) rfl (ltK rfl) rfl ?_
  refine rfE h ?_
  clear h
  intro r37 e_r37 h
  rw [e_r37]
  refine bnE h ?_
  clear h
  intro p51 e_p51 h
  obtain ⟨yp51, h9, e9⟩ := adE2 h
  clear h
  subst e9
  have h := h9
  clear h9
  have hk1 := bd1 hb
  have hn1 := bd2 hb
  replace hb := bdA hb
  refine x_weak (ls' := [(0, .ref c0), (1, .ref r2), (2, .ref r37)]) (sbc 1 rfl (sbc 2 rfl (sbc 0 rfl sbn))) ?_
  refine tl2_LP_copy_90  hk1 hn1 FU _ _ e_p51 _ _ ⟨Nat.le_refl _, Nat.le_refl _⟩  ?_
  refine x_aloadn (pc := 124) (i0 := 0) (j := 0) (dK D_LP_copy_1 6 rfl) rfl rfl ?_
  refine bnE h ?_
  clear h
  intro v52 e_v52 h
  refine wx_getV (pc := 125) (ci := 12) (f := 6) e_v52 (dK D_LP_copy_1 7 rfl) q_779 (ltK rfl) (ltK rfl) (fun hv52 => ?_)
  refine rfE h ?_
  clear h
  intro r53 e_r53 h
  rw [e_r53]
  refine gdE h ?_
  clear h
  intro hk55 h
  refine bnE h ?_
  clear h
  intro p54 e_p54 h
  obtain ⟨yp54, h9, e9⟩ := adE2 h
  clear h
  subst e9
  have h := h9
  clear h9
  have hk1 := bd1 hb
  have hn1 := bd2 hb
  replace hb := bdA hb
  refine x_callX (pc := 128) (As := []) (rest := []) (mc' := p54.2.1) (ms' := p54.2.2) (dK D_LP_copy_1 8 rfl) Q_LP_49 sx_AL_iterator (fitK rfl) (isK_at (Z := (p51.1.1, p51.1.2)) (ci := 13) hk55) rfl (leK rfl) hk1 hn1 (tg_AL_iterator  e_p54) (kxR (fun h_p54 => ?_))
  refine x_astorenV (pc := 131) (i0 := 2) (ls2 := [(2, p54.1.1), (0, .ref c0), (1, .ref r2)]) h_p54 (dK D_LP_copy_1 9 rfl) rfl (ltK rfl) rfl ?_
  refine rfE h ?_
  clear h
  intro r56 e_r56 h
  rw [e_r56]
  refine bnE h ?_
  clear h
  intro p70 e_p70 h
  obtain ⟨yp70, h9, e9⟩ := adE2 h
  clear h
  subst e9
  have h := h9
  clear h9
  have hk1 := bd1 hb
  have hn1 := bd2 hb
  replace hb := bdA hb
  refine x_weak (ls' := [(0, .ref c0), (1, .ref r2), (2, .ref r56)]) (sbc 1 rfl (sbc 2 rfl (sbc 0 rfl sbn))) ?_
  refine tl2_LP_copy_132  hk1 hn1 FU _ _ e_p70 _ _ ⟨Nat.le_refl _, Nat.le_refl _⟩  ?_
  refine x_aloadn (pc := 166) (i0 := 1) (j := 1) (dK D_LP_copy_1 24 rfl) rfl rfl ?_
  refine x_aloadn (pc := 167) (i0 := 0) (j := 0) (dK D_LP_copy_1 25 rfl) rfl rfl ?_
  refine bnE h ?_
  clear h
  intro v71 e_v71 h
  refine wx_getV (pc := 168) (ci := 12) (f := 7) e_v71 (dK D_LP_copy_1 26 rfl) q_781 (ltK rfl) (ltK rfl) (fun hv71 => ?_)
  refine rfE h ?_
  clear h
  intro r72 e_r72 h
  rw [e_r72]
  refine bnE h ?_
  clear h
  intro vs73 e_vs73 h
  refine gdE h ?_
  clear h
  intro hl74 h
  obtain ⟨y75, h9, e9⟩ := adE2 h
  clear h
  subst e9
  have h := h9
  clear h9
  refine nwE h ?_
  clear h
  intro r76 L77 e_r76 e_L77 h
  have hk1 := bd1 hb
  have hn1 := bd2 hb
  replace hb := bdA hb
  refine wn_clone (Z := (p70.1.1, p70.1.2)) (pc := 171) (t := 2) e_r76 e_L77 hl74 e_vs73 (dK D_LP_copy_1 27 rfl) (ltK rfl) rfl q_973 q_974 q_975 q_976 q_977 (List.mem_of_getElem? (i := 1) rfl) (leK rfl) (leK rfl) hk1 hn1 ?_
  refine gdE h ?_
  clear h
  intro hk78 h
  refine wx_castA (Z := (p70.1.1, L77)) (pc := 174) (t := 2) hk78 (dK D_LP_copy_1 28 rfl) q_979 (ltK rfl) rfl ?_
  refine bnE h ?_
  clear h
  intro L79 e_L79 h
  refine wx_put (Z := (p70.1.1, L77)) (pc := 177) (ci := 12) (f := 7) e_L79 (dK D_LP_copy_1 29 rfl) q_781 (ltK rfl) (ltK rfl) rfl (okArr (.inr ⟨_, rfl⟩)) ?_
  refine x_aloadn (pc := 180) (i0 := 1) (j := 1) (dK D_LP_copy_1 30 rfl) rfl rfl ?_
  refine x_aloadn (pc := 181) (i0 := 0) (j := 0) (dK D_LP_copy_1 31 rfl) rfl rfl ?_
  refine bnE h ?_
  clear h
  intro v80 e_v80 h
  refine wx_getV (pc := 182) (ci := 12) (f := 8) e_v80 (dK D_LP_copy_1 32 rfl) q_783 (ltK rfl) (ltK rfl) (fun hv80 => ?_)
  refine rfE h ?_
  clear h
  intro r81 e_r81 h
  rw [e_r81]
  refine bnE h ?_
  clear h
  intro vs82 e_vs82 h
  refine gdE h ?_
  clear h
  intro hl83 h
  obtain ⟨y84, h9, e9⟩ := adE2 h
  clear h
  subst e9
  have h := h9
  clear h9
  refine nwE h ?_
  clear h
  intro r85 L86 e_r85 e_L86 h
  have hk1 := bd1 hb
  have hn1 := bd2 hb
  replace hb := bdA hb
  refine wn_clone (Z := (p70.1.1, L79)) (pc := 185) (t := 2) e_r85 e_L86 hl83 e_vs82 (dK D_LP_copy_1 33 rfl) (ltK rfl) rfl q_973 q_974 q_975 q_976 q_977 (List.mem_of_getElem? (i := 1) rfl) (leK rfl) (leK rfl) hk1 hn1 ?_
  refine gdE h ?_
  clear h
  intro hk87 h
  refine wx_castA (Z := (p70.1.1, L86)) (pc := 188) (t := 2) hk87 (dK D_LP_copy_1 34 rfl) q_979 (ltK rfl) rfl ?_
  refine bnE h ?_
  clear h
  intro L88 e_L88 h
  refine wx_put (Z := (p70.1.1, L86)) (pc := 191) (ci := 12) (f := 8) e_L88 (dK D_LP_copy_1 35 rfl) q_783 (ltK rfl) (ltK rfl) rfl (okArr (.inr ⟨_, rfl⟩)) ?_
  refine x_aloadn (pc := 194) (i0 := 1) (j := 1) (dK D_LP_copy_1 36 rfl) rfl rfl ?_
  refine x_aloadn (pc := 195) (i0 := 0) (j := 0) (dK D_LP_copy_1 37 rfl) rfl rfl ?_
  refine bnE h ?_
  clear h
  intro v89 e_v89 h
  refine wx_getV (pc := 196) (ci := 12) (f := 9) e_v89 (dK D_LP_copy_1 38 rfl) q_785 (ltK rfl) (ltK rfl) (fun hv89 => ?_)
  refine rfE h ?_
  clear h
  intro r90 e_r90 h
  rw [e_r90]
  refine bnE h ?_
  clear h
  intro vs91 e_vs91 h
  refine gdE h ?_
  clear h
  intro hl92 h
  obtain ⟨y93, h9, e9⟩ := adE2 h
  clear h
  subst e9
  have h := h9
  clear h9
  refine nwE h ?_
  clear h
  intro r94 L95 e_r94 e_L95 h
  have hk1 := bd1 hb
  have hn1 := bd2 hb
  replace hb := bdA hb
  refine wn_clone (Z := (p70.1.1, L88)) (pc := 199) (t := 0) e_r94 e_L95 hl92 e_vs91 (dK D_LP_copy_1 39 rfl) (ltK rfl) rfl q_980 q_981 q_975 q_976 q_982 (List.mem_of_getElem? (i := 2) rfl) (leK rfl) (leK rfl) hk1 hn1 ?_
  refine gdE h ?_
  clear h
  intro hk96 h
  refine wx_castA (Z := (p70.1.1, L95)) (pc := 202) (t := 0) hk96 (dK D_LP_copy_1 40 rfl) q_984 (ltK rfl) rfl ?_
  refine bnE h ?_
  clear h
  intro L97 e_L97 h
  refine wx_put (Z := (p70.1.1, L95)) (pc := 205) (ci := 12) (f := 9) e_L97 (dK D_LP_copy_1 41 rfl) q_785 (ltK rfl) (ltK rfl) rfl (okArr (.inr ⟨_, rfl⟩)) ?_
  refine x_aloadn (pc := 208) (i0 := 1) (j := 1) (dK D_LP_copy_1 42 rfl) rfl rfl ?_
  obtain rfl := Option.some.inj h
  exact wk_aret (pc := 209) (.inr ⟨_, rfl⟩) (dK D_LP_copy_1 43 rfl) rfl (by first | exact .inl ⟨_, rfl⟩ | exact .inr ⟨_, rfl⟩) (bdk hb) (bdn hb) ⟨rfl, (.inr ⟨_, rfl⟩), rfl⟩
theorem tg_LP_copy {sc : SC} {c0 : Nat} {S : St} {L : List PC} {q : (Value × LZ) × Nat × Nat} (h : gn_LP_copy c0 S L = some q) : EvX sc M_LP_copy [.ref c0] (wz (S, L)) q.2.1 q.2.2 (KXR q.1.1 q.1.2) := EvX.of pn2_LP rfl (leK rfl) (te_LP_copy  h ⟨Nat.le_of_eq (Nat.zero_add _), Nat.le_of_eq (Nat.zero_add _)⟩)
def gn_Law_pick (sc : SC) (a1 : Int) (S : St) (L : List PC) : Option (Int) := if (nI sc.2).toInt = 0 then (some 0) else (if 0 < (nI sc.2).toInt then (nm (wr (a1.tmod ((nI sc.2).toInt))) fun v2 => if 0 ≤ v2 ∧ v2 < (sc.2 : Int) then (if 0 < (nI sc.2).toInt then (nm (wr (a1.tdiv ((nI sc.2).toInt))) fun v5 => some (i_and (i_shr ((sc.1 v2.toNat).toInt) (v5.tmod 8)) 2147483647)) else none) else none) else none)
theorem te_Law_pick {sc : SC} {a1 : Int} (ha1 : inR a1) {S : St} {L : List PC} {q : Int} (h : gn_Law_pick sc a1 S L = some q) {mc ms k n : Nat} (hk0 : k ≤ mc) (hn0 : n ≤ ms) : GX sc M_Law_pick mc ms 0 [(0, .ref (XB + 200)), (1, V a1)] [] (wz (S, L)) k n (KXI q (S, L)) := by
  unfold gn_Law_pick at h
  refine x_aloadn (pc := 0) (i0 := 0) (j := 0) (dK D_Law_pick 0 rfl) rfl rfl ?_
  refine wx_slen (pc := 1) (dK D_Law_pick 1 rfl) ?_
  refine wx_if_ne (pc := 2) (t := 9) (dK D_Law_pick 2 rfl) rfl (toInt_in _) (fun hc6 => ?_) (fun hc6 => ?_)
  · replace h := ifN h hc6
    refine x_aloadn (pc := 9) (i0 := 0) (j := 0) (dK D_Law_pick 5 rfl) rfl rfl ?_
    refine x_iloadn (pc := 10) (i0 := 1) (j := 1) (dK D_Law_pick 6 rfl) rfl rfl ?_
    refine x_aloadn (pc := 11) (i0 := 0) (j := 0) (dK D_Law_pick 7 rfl) rfl rfl ?_
    refine wx_slen (pc := 12) (dK D_Law_pick 8 rfl) ?_
    refine gdE h ?_
    clear h
    intro hp1 h
    refine wx_irem (pc := 13) (dK D_Law_pick 9 rfl) ha1 (toInt_in _) hp1 ?_
    refine nmE h ?_
    clear h
    intro v2 e_v2 h
    refine wtop e_v2 ?_
    refine gdE h ?_
    clear h
    intro hi3 h
    refine wx_sld (pc := 14) (Vn_in e_v2) hi3 (dK D_Law_pick 10 rfl) ?_
    refine x_iloadn (pc := 15) (i0 := 1) (j := 1) (dK D_Law_pick 11 rfl) rfl rfl ?_
    refine x_aloadn (pc := 16) (i0 := 0) (j := 0) (dK D_Law_pick 12 rfl) rfl rfl ?_
    refine wx_slen (pc := 17) (dK D_Law_pick 13 rfl) ?_
    refine gdE h ?_
    clear h
    intro hp4 h
    refine wx_idiv (pc := 18) (dK D_Law_pick 14 rfl) ha1 (toInt_in _) hp4 ?_
    refine wx_bipush (pc := 19) (dK D_Law_pick 15 rfl) rfl ?_
    refine nmE h ?_
    clear h
    intro v5 e_v5 h
    refine wsk (st' := [V 8, V v5, V ((sc.1 v2.toNat).toInt)]) (congrArg (fun z9 => [V 8, z9, V ((sc.1 v2.toNat).toInt)]) (Vn e_v5)) ?_
    refine wx_irem (pc := 21) (dK D_Law_pick 16 rfl) (Vn_in e_v5) (inRk rfl) (by decide) ?_
    refine wx_ishr (pc := 22) (dK D_Law_pick 17 rfl) ?_
    refine wx_ldc (pc := 23) (y := 2147483647) (dK D_Law_pick 18 rfl) q_988 rfl ?_
    refine wx_iand (pc := 25) (dK D_Law_pick 19 rfl) ?_
    obtain rfl := Option.some.inj h
    exact wk_iretI (pc := 26) (dK D_Law_pick 20 rfl) rfl hk0 hn0 ⟨rfl, (toInt_in _), rfl⟩
  · replace h := ifP h hc6
    refine wx_iconst (pc := 5) (dK D_Law_pick 3 rfl) ?_
    refine x_goto (pc := 6) (tgt := 26) (dK D_Law_pick 4 rfl) rfl ?_
    obtain rfl := Option.some.inj h
    exact wk_iretI (pc := 26) (dK D_Law_pick 20 rfl) rfl hk0 hn0 ⟨rfl, (inRk rfl), rfl⟩
theorem tg_Law_pick {sc : SC} {a1 : Int} (ha1 : inR a1) {S : St} {L : List PC} {q : Int} (h : gn_Law_pick sc a1 S L = some q) : EvX sc M_Law_pick [.ref (XB + 200), V a1] (wz (S, L)) 0 0 (KXI q (S, L)) := EvX.of pn2_Law rfl (leK rfl) (te_Law_pick ha1 h (Nat.le_refl _) (Nat.le_refl _))
def gn_String_coder (c0 : Nat) (S : St) (L : List PC) : Option (Int) := bnO (gfI L c0 16 1) fun v1 => if -128 ≤ v1 ∧ v1 ≤ 127 then (some v1) else none
theorem te_String_coder {sc : SC} {c0 : Nat} {S : St} {L : List PC} {q : Int} (h : gn_String_coder c0 S L = some q) {mc ms k n : Nat} (hk0 : k ≤ mc) (hn0 : n ≤ ms) : GX sc M_String_coder mc ms 0 [(0, .ref c0)] [] (wz (S, L)) k n (KXI q (S, L)) := by
  unfold gn_String_coder at h
  refine x_gs_compact (pc := 0) (dK D_String_coder 0 rfl) q_488 ?_
  refine wsk (st' := [V 1]) rfl ?_
  refine wx_if_eq (pc := 3) (t := 13) (dK D_String_coder 1 rfl) rfl (inRk rfl) (fun hc => absurd hc (by decide)) (fun _ => ?_)
  refine x_aloadn (pc := 6) (i0 := 0) (j := 0) (dK D_String_coder 2 rfl) rfl rfl ?_
  refine bnE h ?_
  clear h
  intro v1 e_v1 h
  refine wx_getI (pc := 7) (ci := 16) (f := 1) e_v1 (dK D_String_coder 3 rfl) q_1461 (ltK rfl) (ltK rfl) ?_
  refine x_goto (pc := 10) (tgt := 14) (dK D_String_coder 4 rfl) rfl ?_
  refine gdE h ?_
  clear h
  intro hz2 h
  obtain rfl := Option.some.inj h
  exact wk_iretY (pc := 14) hz2 (dK D_String_coder 6 rfl) rfl hk0 hn0 ⟨rfl, (vI_at e_v1).2, rfl⟩
theorem tg_String_coder {sc : SC} {c0 : Nat} {S : St} {L : List PC} {q : Int} (h : gn_String_coder c0 S L = some q) : EvX sc M_String_coder [.ref c0] (wz (S, L)) 0 0 (KXI q (S, L)) := EvX.of pn2_String rfl (leK rfl) (te_String_coder  h (Nat.le_refl _) (Nat.le_refl _))
def gn_String_length (c0 : Nat) (S : St) (L : List PC) : Option (Int) := bnO (gfV L c0 16 0) fun v1 => rfB v1 fun r2 => bnO (alm L r2) fun v3 => if isK L c0 16 = true then (bnO (gn_String_coder c0 S L) fun p4 => some (i_shr v3 p4)) else none
theorem te_String_length {sc : SC} {c0 : Nat} {S : St} {L : List PC} {q : Int} (h : gn_String_length c0 S L = some q) {mc ms k n : Nat} (hk0 : k ≤ mc) (hn0 : n ≤ ms) : GX sc M_String_length mc ms 0 [(0, .ref c0)] [] (wz (S, L)) k n (KXI q (S, L)) := by
  unfold gn_String_length at h
  refine x_aloadn (pc := 0) (i0 := 0) (j := 0) (dK D_String_length 0 rfl) rfl rfl ?_
  refine bnE h ?_
  clear h
  intro v1 e_v1 h
  refine wx_getV (pc := 1) (ci := 16) (f := 0) e_v1 (dK D_String_length 1 rfl) q_1460 (ltK rfl) (ltK rfl) (fun hv1 => ?_)
  refine rfE h ?_
  clear h
  intro r2 e_r2 h
  rw [e_r2]
  refine bnE h ?_
  clear h
  intro v3 e_v3 h
  refine wx_alm (pc := 4) e_v3 (dK D_String_length 2 rfl) (fun i_v3 => ?_)
  refine x_aloadn (pc := 5) (i0 := 0) (j := 0) (dK D_String_length 3 rfl) rfl rfl ?_
  refine gdE h ?_
  clear h
  intro hk5 h
  refine bnE h ?_
  clear h
  intro p4 e_p4 h
  refine x_callX (pc := 6) (As := []) (rest := [V v3]) (mc' := 0) (ms' := 0) (dK D_String_length 4 rfl) Q_String_335 sx_String_coder (fitK rfl) (isK_at (Z := (S, L)) (ci := 16) hk5) rfl (leK rfl) hk0 hn0 (tg_String_coder  e_p4) (kxI' (fun h_p4 => ?_))
  refine wx_ishr (pc := 9) (dK D_String_length 5 rfl) ?_
  obtain rfl := Option.some.inj h
  exact wk_iretI (pc := 10) (dK D_String_length 6 rfl) rfl hk0 hn0 ⟨rfl, (toInt_in _), rfl⟩
theorem tg_String_length {sc : SC} {c0 : Nat} {S : St} {L : List PC} {q : Int} (h : gn_String_length c0 S L = some q) : EvX sc M_String_length [.ref c0] (wz (S, L)) 0 0 (KXI q (S, L)) := EvX.of pn2_String rfl (leK rfl) (te_String_length  h (Nat.le_refl _) (Nat.le_refl _))
def gn_String_isLatin1 (c0 : Nat) (S : St) (L : List PC) : Option (Bool) := bnO (gfI L c0 16 1) fun v1 => if v1 = 0 then (some true) else (some false)
theorem te_String_isLatin1 {sc : SC} {c0 : Nat} {S : St} {L : List PC} {q : Bool} (h : gn_String_isLatin1 c0 S L = some q) {mc ms k n : Nat} (hk0 : k ≤ mc) (hn0 : n ≤ ms) : GX sc M_String_isLatin1 mc ms 0 [(0, .ref c0)] [] (wz (S, L)) k n (KXB q (S, L)) := by
  unfold gn_String_isLatin1 at h
  refine x_gs_compact (pc := 0) (dK D_String_isLatin1 0 rfl) q_488 ?_
  refine wsk (st' := [V 1]) rfl ?_
  refine wx_if_eq (pc := 3) (t := 17) (dK D_String_isLatin1 1 rfl) rfl (inRk rfl) (fun hc => absurd hc (by decide)) (fun _ => ?_)
  refine x_aloadn (pc := 6) (i0 := 0) (j := 0) (dK D_String_isLatin1 2 rfl) rfl rfl ?_
  refine bnE h ?_
  clear h
  intro v1 e_v1 h
  refine wx_getI (pc := 7) (ci := 16) (f := 1) e_v1 (dK D_String_isLatin1 3 rfl) q_1461 (ltK rfl) (ltK rfl) ?_
  refine wx_if_ne (pc := 10) (t := 17) (dK D_String_isLatin1 4 rfl) rfl (vI_at e_v1).2 (fun hc2 => ?_) (fun hc2 => ?_)
  · replace h := ifN h hc2
    refine wx_iconst (pc := 17) (dK D_String_isLatin1 7 rfl) ?_
    obtain rfl := Option.some.inj h
    exact wk_iretB (pc := 18) (b := false) (dK D_String_isLatin1 8 rfl) rfl hk0 hn0 ⟨rfl, rfl⟩
  · replace h := ifP h hc2
    refine wx_iconst (pc := 13) (dK D_String_isLatin1 5 rfl) ?_
    refine x_goto (pc := 14) (tgt := 18) (dK D_String_isLatin1 6 rfl) rfl ?_
    obtain rfl := Option.some.inj h
    exact wk_iretB (pc := 18) (b := true) (dK D_String_isLatin1 8 rfl) rfl hk0 hn0 ⟨rfl, rfl⟩
theorem tg_String_isLatin1 {sc : SC} {c0 : Nat} {S : St} {L : List PC} {q : Bool} (h : gn_String_isLatin1 c0 S L = some q) : EvX sc M_String_isLatin1 [.ref c0] (wz (S, L)) 0 0 (KXB q (S, L)) := EvX.of pn2_String rfl (leK rfl) (te_String_isLatin1  h (Nat.le_refl _) (Nat.le_refl _))
def gn_Preconditions_checkIndex (a0 : Int) (a1 : Int) (S : St) (L : List PC) : Option (Int) := if a0 < 0 then none else (if a0 < a1 then (some a0) else none)
theorem te_Preconditions_checkIndex {sc : SC} {a0 : Int} (ha0 : inR a0) {a1 : Int} (ha1 : inR a1) {S : St} {L : List PC} {q : Int} (h : gn_Preconditions_checkIndex a0 a1 S L = some q) {c2 : Value} (hc2 : c2 = .null ∨ ∃ b, c2 = .ref b) {mc ms k n : Nat} (hk0 : k ≤ mc) (hn0 : n ≤ ms) : GX sc M_Preconditions_checkIndex mc ms 0 [(0, V a0), (1, V a1), (2, c2)] [] (wz (S, L)) k n (KXI q (S, L)) := by
  unfold gn_Preconditions_checkIndex at h
  refine x_iloadn (pc := 0) (i0 := 0) (j := 0) (dK D_Preconditions_checkIndex 0 rfl) rfl rfl ?_
  refine wx_if_lt (pc := 1) (t := 9) (dK D_Preconditions_checkIndex 1 rfl) rfl ha0 (fun hc2 => ?_) (fun hc2 => ?_)
  · replace h := ifP h hc2
    exact nomatch h
  · replace h := ifN h hc2
    refine x_iloadn (pc := 4) (i0 := 0) (j := 0) (dK D_Preconditions_checkIndex 2 rfl) rfl rfl ?_
    refine x_iloadn (pc := 5) (i0 := 1) (j := 1) (dK D_Preconditions_checkIndex 3 rfl) rfl rfl ?_
    refine wx_icmp_lt (pc := 6) (t := 16) (dK D_Preconditions_checkIndex 4 rfl) rfl ha0 ha1 (fun hc1 => ?_) (fun hc1 => ?_)
    · replace h := ifP h hc1
      refine x_iloadn (pc := 16) (i0 := 0) (j := 0) (dK D_Preconditions_checkIndex 10 rfl) rfl rfl ?_
      obtain rfl := Option.some.inj h
      exact wk_iretI (pc := 17) (dK D_Preconditions_checkIndex 11 rfl) rfl hk0 hn0 ⟨rfl, ha0, rfl⟩
    · replace h := ifN h hc1
      exact nomatch h
theorem tg_Preconditions_checkIndex {sc : SC} {a0 : Int} (ha0 : inR a0) {a1 : Int} (ha1 : inR a1) {S : St} {L : List PC} {q : Int} (h : gn_Preconditions_checkIndex a0 a1 S L = some q) {c2 : Value} (hc2 : c2 = .null ∨ ∃ b, c2 = .ref b) : EvX sc M_Preconditions_checkIndex [V a0, V a1, c2] (wz (S, L)) 0 0 (KXI q (S, L)) := by
  rcases hc2 with e_c2 | ⟨b_c2, e_c2⟩ <;> subst e_c2 <;>
  exact EvX.of pn2_Prec rfl (leK rfl) (te_Preconditions_checkIndex ha0 ha1 h (by first | exact .inl rfl | exact .inr ⟨_, rfl⟩) (Nat.le_refl _) (Nat.le_refl _))
def gn_String_checkIndex (a0 : Int) (a1 : Int) (S : St) (L : List PC) : Option (Unit) := bnO (gn_Preconditions_checkIndex a0 a1 S L) fun p1 => some ()
theorem te_String_checkIndex {sc : SC} {a0 : Int} (ha0 : inR a0) {a1 : Int} (ha1 : inR a1) {S : St} {L : List PC} {q : Unit} (h : gn_String_checkIndex a0 a1 S L = some q) {mc ms k n : Nat} (hk0 : k ≤ mc) (hn0 : n ≤ ms) : GX sc M_String_checkIndex mc ms 0 [(0, V a0), (1, V a1)] [] (wz (S, L)) k n (KXU (S, L)) := by
  unfold gn_String_checkIndex at h
  refine x_iloadn (pc := 0) (i0 := 0) (j := 0) (dK D_String_checkIndex 0 rfl) rfl rfl ?_
  refine x_iloadn (pc := 1) (i0 := 1) (j := 1) (dK D_String_checkIndex 1 rfl) rfl rfl ?_
  refine x_gs_form (pc := 2) (dK D_String_checkIndex 2 rfl) q_504 (fun vform hvform => ?_)
  refine bnE h ?_
  clear h
  intro p1 e_p1 h
  refine x_callS (pc := 5) (As := [V a0, V a1, vform]) (rest := []) (mc' := 0) (ms' := 0) (dK D_String_checkIndex 3 rfl) Q_String_1059 (fitK rfl) rfl (leK rfl) hk0 hn0 (tg_Preconditions_checkIndex ha0 ha1 e_p1 hvform) (kxI' (fun h_p1 => ?_))
  refine x_pop (pc := 8) (dK D_String_checkIndex 4 rfl) rfl ?_
  exact wk_ret (pc := 9) (dK D_String_checkIndex 5 rfl) rfl hk0 hn0 ⟨rfl, rfl⟩
theorem tg_String_checkIndex {sc : SC} {a0 : Int} (ha0 : inR a0) {a1 : Int} (ha1 : inR a1) {S : St} {L : List PC} {q : Unit} (h : gn_String_checkIndex a0 a1 S L = some q) : EvX sc M_String_checkIndex [V a0, V a1] (wz (S, L)) 0 0 (KXU (S, L)) := EvX.of pn2_String rfl (leK rfl) (te_String_checkIndex ha0 ha1 h (Nat.le_refl _) (Nat.le_refl _))
def gn_StringLatin1_charAt (c0 : Nat) (a1 : Int) (S : St) (L : List PC) : Option (Int) := bnO (alm L c0) fun v1 => bnO (gn_String_checkIndex a1 v1 S L) fun p2 => bnO (ald L 1 c0 a1) fun v3 => if 0 ≤ (i_and v3 255) ∧ (i_and v3 255) ≤ 255 then (if 0 ≤ (i_and v3 255) ∧ (i_and v3 255) ≤ 255 then (some (i_and v3 255)) else none) else none
theorem te_StringLatin1_charAt {sc : SC} {c0 : Nat} {a1 : Int} (ha1 : inR a1) {S : St} {L : List PC} {q : Int} (h : gn_StringLatin1_charAt c0 a1 S L = some q) {mc ms k n : Nat} (hk0 : k ≤ mc) (hn0 : n ≤ ms) : GX sc M_StringLatin1_charAt mc ms 0 [(0, .ref c0), (1, V a1)] [] (wz (S, L)) k n (KXI q (S, L)) := by
  unfold gn_StringLatin1_charAt at h
  refine x_iloadn (pc := 0) (i0 := 1) (j := 1) (dK D_StringLatin1_charAt 0 rfl) rfl rfl ?_
  refine x_aloadn (pc := 1) (i0 := 0) (j := 0) (dK D_StringLatin1_charAt 1 rfl) rfl rfl ?_
  refine bnE h ?_
  clear h
  intro v1 e_v1 h
  refine wx_alm (pc := 2) e_v1 (dK D_StringLatin1_charAt 2 rfl) (fun i_v1 => ?_)
  refine bnE h ?_
  clear h
  intro p2 e_p2 h
  refine x_callS (pc := 3) (As := [V a1, V v1]) (rest := []) (mc' := 0) (ms' := 0) (dK D_StringLatin1_charAt 3 rfl) Q_SL_9 (fitK rfl) rfl (leK rfl) hk0 hn0 (tg_String_checkIndex ha1 i_v1 e_p2) (kxU ?_)
  refine x_aloadn (pc := 6) (i0 := 0) (j := 0) (dK D_StringLatin1_charAt 4 rfl) rfl rfl ?_
  refine x_iloadn (pc := 7) (i0 := 1) (j := 1) (dK D_StringLatin1_charAt 5 rfl) rfl rfl ?_
  refine bnE h ?_
  clear h
  intro v3 e_v3 h
  refine wx_bald (pc := 8) e_v3 ha1 (dK D_StringLatin1_charAt 6 rfl) ?_
  refine wx_sipush (pc := 9) (dK D_StringLatin1_charAt 7 rfl) rfl ?_
  refine wx_iand (pc := 12) (dK D_StringLatin1_charAt 8 rfl) ?_
  refine gdE h ?_
  clear h
  intro hz4 h
  refine wx_i2c (pc := 13) (Z := (S, L)) hz4 (dK D_StringLatin1_charAt 9 rfl) ?_
  refine gdE h ?_
  clear h
  intro hz5 h
  obtain rfl := Option.some.inj h
  exact wk_iretC (pc := 14) hz5 (dK D_StringLatin1_charAt 10 rfl) rfl hk0 hn0 ⟨rfl, (toInt_in _), rfl⟩
theorem tg_StringLatin1_charAt {sc : SC} {c0 : Nat} {a1 : Int} (ha1 : inR a1) {S : St} {L : List PC} {q : Int} (h : gn_StringLatin1_charAt c0 a1 S L = some q) : EvX sc M_StringLatin1_charAt [.ref c0, V a1] (wz (S, L)) 0 0 (KXI q (S, L)) := EvX.of pn2_SL rfl (leK rfl) (te_StringLatin1_charAt ha1 h (Nat.le_refl _) (Nat.le_refl _))
def gn_String_charAt (c0 : Nat) (a1 : Int) (S : St) (L : List PC) : Option (Int) := if isK L c0 16 = true then (bnO (gn_String_isLatin1 c0 S L) fun p1 => if p1 = true then (bnO (gfV L c0 16 0) fun v4 => rfB v4 fun r5 => bnO (gn_StringLatin1_charAt r5 a1 S L) fun p6 => if 0 ≤ p6 ∧ p6 ≤ 255 then (some p6) else none) else none) else none
theorem te_String_charAt {sc : SC} {c0 : Nat} {a1 : Int} (ha1 : inR a1) {S : St} {L : List PC} {q : Int} (h : gn_String_charAt c0 a1 S L = some q) {mc ms k n : Nat} (hk0 : k ≤ mc) (hn0 : n ≤ ms) : GX sc M_String_charAt mc ms 0 [(0, .ref c0), (1, V a1)] [] (wz (S, L)) k n (KXI q (S, L)) := by
  unfold gn_String_charAt at h
  refine x_aloadn (pc := 0) (i0 := 0) (j := 0) (dK D_String_charAt 0 rfl) rfl rfl ?_
  refine gdE h ?_
  clear h
  intro hk2 h
  refine bnE h ?_
  clear h
  intro p1 e_p1 h
  refine x_callX (pc := 1) (As := []) (rest := []) (mc' := 0) (ms' := 0) (dK D_String_charAt 1 rfl) Q_String_492 sx_String_isLatin1 (fitK rfl) (isK_at (Z := (S, L)) (ci := 16) hk2) rfl (leK rfl) hk0 hn0 (tg_String_isLatin1  e_p1) (kxB' ?_)
  refine wx_ifB_eq (pc := 4) (b := p1) (t := 16) (dK D_String_charAt 2 rfl) rfl (fun hc3 => ?_) (fun hc3 => ?_)
  · replace h := ifP h hc3
    refine x_aloadn (pc := 7) (i0 := 0) (j := 0) (dK D_String_charAt 3 rfl) rfl rfl ?_
    refine bnE h ?_
    clear h
    intro v4 e_v4 h
    refine wx_getV (pc := 8) (ci := 16) (f := 0) e_v4 (dK D_String_charAt 4 rfl) q_1460 (ltK rfl) (ltK rfl) (fun hv4 => ?_)
    refine x_iloadn (pc := 11) (i0 := 1) (j := 1) (dK D_String_charAt 5 rfl) rfl rfl ?_
    refine rfE h ?_
    clear h
    intro r5 e_r5 h
    rw [e_r5]
    refine bnE h ?_
    clear h
    intro p6 e_p6 h
    refine x_callS (pc := 12) (As := [.ref r5, V a1]) (rest := []) (mc' := 0) (ms' := 0) (dK D_String_charAt 6 rfl) Q_String_495 (fitK rfl) rfl (leK rfl) hk0 hn0 (tg_StringLatin1_charAt ha1 e_p6) (kxI' (fun h_p6 => ?_))
    refine gdE h ?_
    clear h
    intro hz7 h
    obtain rfl := Option.some.inj h
    exact wk_iretC (pc := 15) hz7 (dK D_String_charAt 7 rfl) rfl hk0 hn0 ⟨rfl, h_p6, rfl⟩
  · replace h := ifN h hc3
    exact nomatch h
theorem tg_String_charAt {sc : SC} {c0 : Nat} {a1 : Int} (ha1 : inR a1) {S : St} {L : List PC} {q : Int} (h : gn_String_charAt c0 a1 S L = some q) : EvX sc M_String_charAt [.ref c0, V a1] (wz (S, L)) 0 0 (KXI q (S, L)) := EvX.of pn2_String rfl (leK rfl) (te_String_charAt ha1 h (Nat.le_refl _) (Nat.le_refl _))
def lb2_Law_input_23 (c1 : Nat) (a2 : Int) (c3 : Nat) (go : Int × LZ → Option ((LZ) × Nat × Nat)) (a4 : Int) (S : St) (L : List PC) : Option ((LZ) × Nat × Nat) := if 20 ≤ a4 then (some ((S, L), 0, 0)) else (if isK L c1 16 = true then (bnO (gn_String_length c1 S L) fun p9 => nm (wr (a2 + a4)) fun v11 => if p9 ≤ v11 then (some ((S, L), 0, 0)) else (nm (wr (a4.tdiv 4)) fun v12 => bnO (ald L 0 c3 v12) fun v13 => nm (wr (a2 + a4)) fun v14 => if isK L c1 16 = true then (bnO (gn_String_charAt c1 v14 S L) fun p15 => nm (wr (a4.tdiv 4)) fun v17 => bnO (ast L 100 c3 v17 (V (i_or v13 (i_shl p15 (24 - (8 * (a4.tmod 4))))))) fun L18 => nm (wr (a4 + 1)) fun v19 => go (v19, (S, L18))) else none)) else none)
def lo2_Law_input_23 (c1 : Nat) (a2 : Int) (c3 : Nat) : Nat → Int × LZ → Option ((LZ) × Nat × Nat) := lp fun go p => lb2_Law_input_23 c1 a2 c3 go p.1 p.2.1 p.2.2
theorem tl2_Law_input_23 {sc : SC} {c1 : Nat} {a2 : Int} (ha2 : inR a2) {c3 : Nat} {K : Option Value → List PC → Prop} {mc ms kt nt : Nat} (hkt : kt ≤ mc) (hnt : nt ≤ ms) : ∀ (N : Nat) (a : Int × LZ) (q : (LZ) × Nat × Nat), lo2_Law_input_23 c1 a2 c3 N a = some q → ∀ k n, Bd k n kt nt q → inR a.1 → (GX sc M_Law_input mc ms 75 [(0, .ref 0), (1, .ref c1), (2, V a2), (3, .ref c3)] [] (wz q.1) kt nt K) → GX sc M_Law_input mc ms 23 [(0, .ref 0), (1, .ref c1), (2, V a2), (3, .ref c3), (4, V a.1)] [] (wz a.2) k n K := by
  refine lp_ind2 (P := fun (a : Int × LZ) (q : (LZ) × Nat × Nat) => ∀ k n, Bd k n kt nt q → inR a.1 → (GX sc M_Law_input mc ms 75 [(0, .ref 0), (1, .ref c1), (2, V a2), (3, .ref c3)] [] (wz q.1) kt nt K) → GX sc M_Law_input mc ms 23 [(0, .ref 0), (1, .ref c1), (2, V a2), (3, .ref c3), (4, V a.1)] [] (wz a.2) k n K) (fun go ih a q h => ?_)
  obtain ⟨a4, ⟨S, L⟩⟩ := a
  intro k n hb ha4 hx
  show GX sc M_Law_input mc ms 23 [(0, .ref 0), (1, .ref c1), (2, V a2), (3, .ref c3), (4, V a4)] [] (wz (S, L)) k n K
  replace h : lb2_Law_input_23 c1 a2 c3 go a4 S L = some q := h
  unfold lb2_Law_input_23 at h
  refine x_iload (pc := 23) (j := 4) (dK D_Law_input_0 15 rfl) rfl ?_
  refine wx_bipush (pc := 25) (dK D_Law_input_0 16 rfl) rfl ?_
  refine wx_icmp_ge (pc := 27) (t := 75) (dK D_Law_input_0 17 rfl) rfl ha4 (inRk rfl) (fun hc21 => ?_) (fun hc21 => ?_)
  · replace h := ifP h hc21
    obtain rfl := Option.some.inj h
    refine x_weak (ls' := [(0, .ref 0), (1, .ref c1), (2, V a2), (3, .ref c3)]) (sbc 0 rfl (sbc 1 rfl (sbc 2 rfl (sbc 3 rfl sbn)))) ?_
    refine x_room (bdk hb) (bdn hb) ?_
    exact hx 
  · replace h := ifN h hc21
    refine x_iloadn (pc := 30) (i0 := 2) (j := 2) (dK D_Law_input_0 18 rfl) rfl rfl ?_
    refine x_iload (pc := 31) (j := 4) (dK D_Law_input_0 19 rfl) rfl ?_
    refine wx_iadd (pc := 33) (dK D_Law_input_0 20 rfl) ?_
    refine x_aloadn (pc := 34) (i0 := 1) (j := 1) (dK D_Law_input_0 21 rfl) rfl rfl ?_
    refine gdE h ?_
    clear h
    intro hk10 h
    refine bnE h ?_
    clear h
    intro p9 e_p9 h
    refine x_callX (pc := 35) (As := []) (rest := [V (a2 + a4)]) (mc' := 0) (ms' := 0) (dK D_Law_input_0 22 rfl) Q_Law_14 sx_String_length (fitK rfl) (isK_at (Z := (S, L)) (ci := 16) hk10) rfl (leK rfl) (Nat.le_trans (bdk hb) hkt) (Nat.le_trans (bdn hb) hnt) (tg_String_length  e_p9) (kxI' (fun h_p9 => ?_))
    refine nmE h ?_
    clear h
    intro v11 e_v11 h
    refine wsk (st' := [V p9, V v11]) (congrArg (fun z9 => [V p9, z9]) (Vn e_v11)) ?_
    refine wx_icmp_ge (pc := 38) (t := 75) (dK D_Law_input_0 23 rfl) rfl (Vn_in e_v11) h_p9 (fun hc20 => ?_) (fun hc20 => ?_)
    · replace h := ifP h hc20
      obtain rfl := Option.some.inj h
      refine x_weak (ls' := [(0, .ref 0), (1, .ref c1), (2, V a2), (3, .ref c3)]) (sbc 0 rfl (sbc 1 rfl (sbc 2 rfl (sbc 3 rfl sbn)))) ?_
      refine x_room (bdk hb) (bdn hb) ?_
      exact hx 
    · replace h := ifN h hc20
      refine x_aloadn (pc := 41) (i0 := 3) (j := 3) (dK D_Law_input_0 24 rfl) rfl rfl ?_
      refine x_iload (pc := 42) (j := 4) (dK D_Law_input_0 25 rfl) rfl ?_
      refine wx_iconst (pc := 44) (dK D_Law_input_0 26 rfl) ?_
      refine wx_idiv (pc := 45) (dK D_Law_input_0 27 rfl) ha4 (inRk rfl) (by decide) ?_
      refine x_dup2 (pc := 46) (dK D_Law_input_0 28 rfl) rfl rfl ?_
      refine nmE h ?_
      clear h
      intro v12 e_v12 h
      refine wtop e_v12 ?_
      refine bnE h ?_
      clear h
      intro v13 e_v13 h
      refine wx_iald (pc := 47) e_v13 (Vn_in e_v12) (dK D_Law_input_0 29 rfl) ?_
      refine x_aloadn (pc := 48) (i0 := 1) (j := 1) (dK D_Law_input_0 30 rfl) rfl rfl ?_
      refine x_iloadn (pc := 49) (i0 := 2) (j := 2) (dK D_Law_input_0 31 rfl) rfl rfl ?_
      refine x_iload (pc := 50) (j := 4) (dK D_Law_input_0 32 rfl) rfl ?_
      refine wx_iadd (pc := 52) (dK D_Law_input_0 33 rfl) ?_
      refine nmE h ?_
      clear h
      intro v14 e_v14 h
      refine wtop e_v14 ?_
      refine gdE h ?_
      clear h
      intro hk16 h
      refine bnE h ?_
      clear h
      intro p15 e_p15 h
      refine x_callX (pc := 53) (As := [V v14]) (rest := [V v13, V (a4.tdiv 4), .ref c3]) (mc' := 0) (ms' := 0) (dK D_Law_input_0 34 rfl) Q_Law_20 sx_String_charAt (fitK rfl) (isK_at (Z := (S, L)) (ci := 16) hk16) rfl (leK rfl) (Nat.le_trans (bdk hb) hkt) (Nat.le_trans (bdn hb) hnt) (tg_String_charAt (Vn_in e_v14) e_p15) (kxI' (fun h_p15 => ?_))
      refine wx_bipush (pc := 56) (dK D_Law_input_0 35 rfl) rfl ?_
      refine wx_bipush (pc := 58) (dK D_Law_input_0 36 rfl) rfl ?_
      refine x_iload (pc := 60) (j := 4) (dK D_Law_input_0 37 rfl) rfl ?_
      refine wx_iconst (pc := 62) (dK D_Law_input_0 38 rfl) ?_
      refine wx_irem (pc := 63) (dK D_Law_input_0 39 rfl) ha4 (inRk rfl) (by decide) ?_
      refine wx_imul (pc := 64) (dK D_Law_input_0 40 rfl) ?_
      refine wx_isub (pc := 65) (dK D_Law_input_0 41 rfl) ?_
      refine wx_ishl (pc := 66) (dK D_Law_input_0 42 rfl) ?_
      refine wx_ior (pc := 67) (dK D_Law_input_0 43 rfl) ?_
      refine nmE h ?_
      clear h
      intro v17 e_v17 h
      refine wsk (st' := [V (i_or v13 (i_shl p15 (24 - (8 * (a4.tmod 4))))), V v17, .ref c3]) (congrArg (fun z9 => [V (i_or v13 (i_shl p15 (24 - (8 * (a4.tmod 4))))), z9, .ref c3]) (Vn e_v17)) ?_
      refine bnE h ?_
      clear h
      intro L18 e_L18 h
      refine wx_iast (Z := (S, L)) (pc := 68) (z := (i_or v13 (i_shl p15 (24 - (8 * (a4.tmod 4)))))) e_L18 (Vn_in e_v17) (dK D_Law_input_0 44 rfl) ?_
      refine nmE h ?_
      clear h
      intro v19 e_v19 h
      refine wx_iinc (pc := 69) (j := 4) (a := a4) (z := 1) (ls2 := [(4, V v19), (0, .ref 0), (1, .ref c1), (2, V a2), (3, .ref c3)]) (dK D_Law_input_0 45 rfl) rfl e_v19 (ltK rfl) rfl ?_
      refine x_goto (pc := 72) (tgt := 23) (dK D_Law_input_0 46 rfl) rfl ?_
      refine x_weak (ls' := [(0, .ref 0), (1, .ref c1), (2, V a2), (3, .ref c3), (4, V v19)]) (sbc 1 rfl (sbc 2 rfl (sbc 3 rfl (sbc 4 rfl (sbc 0 rfl sbn))))) ?_
      replace h := ih _ _ h
      exact h _ _ hb (Vn_in e_v19) hx
def lb2_Law_input_8 (c1 : Nat) (go : Int × LZ → Option ((LZ) × Nat × Nat)) (a2 : Int) (S : St) (L : List PC) : Option ((LZ) × Nat × Nat) := if isK L c1 16 = true then (bnO (gn_String_length c1 S L) fun p2 => if p2 ≤ a2 then (some ((S, L), 0, 0)) else (if (0 : Int) ≤ 5 ∧ (5 : Int) ≤ 16384 then (if L.length < 900000000 then adC 1 (5 : Int).toNat (nw L (100, List.replicate (5 : Int).toNat (.int 0)) fun r7 L8 => bnO (lo2_Law_input_23 c1 a2 r7 FU (0, (S, L8))) fun p22 => adC p22.2.1 p22.2.2 (bnO (ald p22.1.2 0 r7 0) fun v23 => bnO (ald p22.1.2 0 r7 1) fun v24 => bnO (ald p22.1.2 0 r7 2) fun v25 => bnO (ald p22.1.2 0 r7 3) fun v26 => bnO (ald p22.1.2 0 r7 4) fun v27 => bnO (fn_FP_appendInput 0 v23 v24 v25 v26 v27 p22.1.1) fun p28 => nm (wr (a2 + 20)) fun v29 => go (v29, (p28.2, p22.1.2)))) else none) else none)) else none
def lo2_Law_input_8 (c1 : Nat) : Nat → Int × LZ → Option ((LZ) × Nat × Nat) := lp fun go p => lb2_Law_input_8 c1 go p.1 p.2.1 p.2.2
theorem tl2_Law_input_8 {sc : SC} {c1 : Nat} {K : Option Value → List PC → Prop} {mc ms kt nt : Nat} (hkt : kt ≤ mc) (hnt : nt ≤ ms) : ∀ (N : Nat) (a : Int × LZ) (q : (LZ) × Nat × Nat), lo2_Law_input_8 c1 N a = some q → ∀ k n, Bd k n kt nt q → inR a.1 → (GX sc M_Law_input mc ms 101 [(0, .ref 0), (1, .ref c1)] [] (wz q.1) kt nt K) → GX sc M_Law_input mc ms 8 [(0, .ref 0), (1, .ref c1), (2, V a.1)] [] (wz a.2) k n K := by
  refine lp_ind2 (P := fun (a : Int × LZ) (q : (LZ) × Nat × Nat) => ∀ k n, Bd k n kt nt q → inR a.1 → (GX sc M_Law_input mc ms 101 [(0, .ref 0), (1, .ref c1)] [] (wz q.1) kt nt K) → GX sc M_Law_input mc ms 8 [(0, .ref 0), (1, .ref c1), (2, V a.1)] [] (wz a.2) k n K) (fun go ih a q h => ?_)
  obtain ⟨a2, ⟨S, L⟩⟩ := a
  intro k n hb ha2 hx
  show GX sc M_Law_input mc ms 8 [(0, .ref 0), (1, .ref c1), (2, V a2)] [] (wz (S, L)) k n K
  replace h : lb2_Law_input_8 c1 go a2 S L = some q := h
  unfold lb2_Law_input_8 at h
  refine x_iloadn (pc := 8) (i0 := 2) (j := 2) (dK D_Law_input_0 6 rfl) rfl rfl ?_
  refine x_aloadn (pc := 9) (i0 := 1) (j := 1) (dK D_Law_input_0 7 rfl) rfl rfl ?_
  refine gdE h ?_
  clear h
  intro hk3 h
  refine bnE h ?_
  clear h
  intro p2 e_p2 h
  refine x_callX (pc := 10) (As := []) (rest := [V a2]) (mc' := 0) (ms' := 0) (dK D_Law_input_0 8 rfl) Q_Law_14 sx_String_length (fitK rfl) (isK_at (Z := (S, L)) (ci := 16) hk3) rfl (leK rfl) (Nat.le_trans (bdk hb) hkt) (Nat.le_trans (bdn hb) hnt) (tg_String_length  e_p2) (kxI' (fun h_p2 => ?_))
  refine wx_icmp_ge (pc := 13) (t := 101) (dK D_Law_input_0 9 rfl) rfl ha2 h_p2 (fun hc30 => ?_) (fun hc30 => ?_)
  · replace h := ifP h hc30
    obtain rfl := Option.some.inj h
    refine x_weak (ls' := [(0, .ref 0), (1, .ref c1)]) (sbc 0 rfl (sbc 1 rfl sbn)) ?_
    refine x_room (bdk hb) (bdn hb) ?_
    exact hx 
  · replace h := ifN h hc30
    refine wx_iconst (pc := 16) (dK D_Law_input_0 10 rfl) ?_
    refine gdE h ?_
    clear h
    intro hz4 h
    refine gdE h ?_
    clear h
    intro hl5 h
    obtain ⟨y6, h9, e9⟩ := adE2 h
    clear h
    subst e9
    have h := h9
    clear h9
    refine nwE h ?_
    clear h
    intro r7 L8 e_r7 e_L8 h
    have hk1 := Nat.le_trans (bd1 hb) hkt
    have hn1 := Nat.le_trans (bd2 hb) hnt
    replace hb := bdA hb
    refine wn_newa_int (Z := (S, L)) (pc := 17) e_r7 e_L8 hl5 (inRk rfl) hz4 (dK D_Law_input_0 11 rfl) q_68 hk1 hn1 ?_
    refine x_astoren (pc := 19) (i0 := 3) (ls2 := [(3, .ref r7), (0, .ref 0), (1, .ref c1), (2, V a2)]) (dK D_Law_input_0 12 rfl) rfl (ltK rfl) rfl ?_
    refine wx_iconst (pc := 20) (dK D_Law_input_0 13 rfl) ?_
    refine x_istore (pc := 21) (ls2 := [(4, V 0), (3, .ref r7), (0, .ref 0), (1, .ref c1), (2, V a2)]) (dK D_Law_input_0 14 rfl) (ltK rfl) rfl ?_
    refine bnE h ?_
    clear h
    intro p22 e_p22 h
    obtain ⟨yp22, h9, e9⟩ := adE2 h
    clear h
    subst e9
    have h := h9
    clear h9
    have hk1 := Nat.le_trans (bd1 hb) hkt
    have hn1 := Nat.le_trans (bd2 hb) hnt
    replace hb := bdA hb
    refine x_weak (ls' := [(0, .ref 0), (1, .ref c1), (2, V a2), (3, .ref r7), (4, V 0)]) (sbc 2 rfl (sbc 3 rfl (sbc 4 rfl (sbc 1 rfl (sbc 0 rfl sbn))))) ?_
    refine tl2_Law_input_23 ha2 hk1 hn1 FU _ _ e_p22 _ _ ⟨Nat.le_refl _, Nat.le_refl _⟩ (inRk rfl) ?_
    refine x_aloadn (pc := 75) (i0 := 0) (j := 0) (dK D_Law_input_0 47 rfl) rfl rfl ?_
    refine x_aloadn (pc := 76) (i0 := 3) (j := 3) (dK D_Law_input_0 48 rfl) rfl rfl ?_
    refine wx_iconst (pc := 77) (dK D_Law_input_0 49 rfl) ?_
    refine bnE h ?_
    clear h
    intro v23 e_v23 h
    refine wx_iald (pc := 78) e_v23 (inRk rfl) (dK D_Law_input_1 0 rfl) ?_
    refine x_aloadn (pc := 79) (i0 := 3) (j := 3) (dK D_Law_input_1 1 rfl) rfl rfl ?_
    refine wx_iconst (pc := 80) (dK D_Law_input_1 2 rfl) ?_
    refine bnE h ?_
    clear h
    intro v24 e_v24 h
    refine wx_iald (pc := 81) e_v24 (inRk rfl) (dK D_Law_input_1 3 rfl) ?_
    refine x_aloadn (pc := 82) (i0 := 3) (j := 3) (dK D_Law_input_1 4 rfl) rfl rfl ?_
    refine wx_iconst (pc := 83) (dK D_Law_input_1 5 rfl) ?_
    refine bnE h ?_
    clear h
    intro v25 e_v25 h
    refine wx_iald (pc := 84) e_v25 (inRk rfl) (dK D_Law_input_1 6 rfl) ?_
    refine x_aloadn (pc := 85) (i0 := 3) (j := 3) (dK D_Law_input_1 7 rfl) rfl rfl ?_
    refine wx_iconst (pc := 86) (dK D_Law_input_1 8 rfl) ?_
    refine bnE h ?_
    clear h
    intro v26 e_v26 h
    refine wx_iald (pc := 87) e_v26 (inRk rfl) (dK D_Law_input_1 9 rfl) ?_
    refine x_aloadn (pc := 88) (i0 := 3) (j := 3) (dK D_Law_input_1 10 rfl) rfl rfl ?_
    refine wx_iconst (pc := 89) (dK D_Law_input_1 11 rfl) ?_
    refine bnE h ?_
    clear h
    intro v27 e_v27 h
    refine wx_iald (pc := 90) e_v27 (inRk rfl) (dK D_Law_input_1 12 rfl) ?_
    refine bnE h ?_
    clear h
    intro p28 e_p28 h
    refine x_callX (pc := 91) (As := [V v23, V v24, V v25, V v26, V v27]) (rest := []) (mc' := 0) (ms' := 0) (dK D_Law_input_1 13 rfl) Q_Law_24 sx_FP_appendInput (fitK rfl) (isK_at (Z := (p22.1.1, p22.1.2)) (ci := 10) isK0) rfl (leK rfl) (Nat.le_trans (bdk hb) hkt) (Nat.le_trans (bdn hb) hnt) (clI (fun E => tf_FP_appendInput (X := xz p22.1.2) xz_hc (vI_at e_v23).2 (vI_at e_v24).2 (vI_at e_v25).2 (vI_at e_v26).2 (vI_at e_v27).2 e_p28)) (kxI' (fun h_p28 => ?_))
    refine x_pop (pc := 94) (dK D_Law_input_1 14 rfl) rfl ?_
    refine nmE h ?_
    clear h
    intro v29 e_v29 h
    refine wx_iinc (pc := 95) (j := 2) (a := a2) (z := 20) (ls2 := [(2, V v29), (0, .ref 0), (1, .ref c1), (3, .ref r7)]) (dK D_Law_input_1 15 rfl) rfl e_v29 (ltK rfl) rfl ?_
    refine x_goto (pc := 98) (tgt := 8) (dK D_Law_input_1 16 rfl) rfl ?_
    refine x_weak (ls' := [(0, .ref 0), (1, .ref c1), (2, V v29)]) (sbc 1 rfl (sbc 2 rfl (sbc 0 rfl sbn))) ?_
    replace h := ih _ _ h
    exact h _ _ hb (Vn_in e_v29) hx
def gn_Law_input (c1 : Nat) (S : St) (L : List PC) : Option ((LZ) × Nat × Nat) := bnO (fn_FP_truncateInput 0 0 S) fun p1 => bnO (lo2_Law_input_8 c1 FU (0, (p1.2, L))) fun p31 => adC p31.2.1 p31.2.2 (if isK p31.1.2 c1 16 = true then (bnO (gn_String_length c1 p31.1.1 p31.1.2) fun p32 => bnO (fn_FP_truncateInput 0 p32 p31.1.1) fun p34 => some ((p34.2, p31.1.2), 0, 0)) else none)
theorem te_Law_input {sc : SC} {c1 : Nat} {S : St} {L : List PC} {q : (LZ) × Nat × Nat} (h : gn_Law_input c1 S L = some q) {mc ms k n : Nat} (hb : Bd k n mc ms q) : GX sc M_Law_input mc ms 0 [(0, .ref 0), (1, .ref c1)] [] (wz (S, L)) k n (KXU q.1) := by
  unfold gn_Law_input at h
  refine x_aloadn (pc := 0) (i0 := 0) (j := 0) (dK D_Law_input_0 0 rfl) rfl rfl ?_
  refine wx_iconst (pc := 1) (dK D_Law_input_0 1 rfl) ?_
  refine bnE h ?_
  clear h
  intro p1 e_p1 h
  refine x_callX (pc := 2) (As := [V 0]) (rest := []) (mc' := 0) (ms' := 0) (dK D_Law_input_0 2 rfl) Q_Law_8 sx_FP_truncateInput (fitK rfl) (isK_at (Z := (S, L)) (ci := 10) isK0) rfl (leK rfl) (bdk hb) (bdn hb) (clI (fun E => tf_FP_truncateInput (X := xz L) xz_hc (inRk rfl) e_p1)) (kxI' (fun h_p1 => ?_))
  refine x_pop (pc := 5) (dK D_Law_input_0 3 rfl) rfl ?_
  refine wx_iconst (pc := 6) (dK D_Law_input_0 4 rfl) ?_
  refine x_istoren (pc := 7) (i0 := 2) (ls2 := [(2, V 0), (0, .ref 0), (1, .ref c1)]) (dK D_Law_input_0 5 rfl) rfl (ltK rfl) rfl ?_
  refine bnE h ?_
  clear h
  intro p31 e_p31 h
  obtain ⟨yp31, h9, e9⟩ := adE2 h
  clear h
  subst e9
  have h := h9
  clear h9
  have hk1 := bd1 hb
  have hn1 := bd2 hb
  replace hb := bdA hb
  refine x_weak (ls' := [(0, .ref 0), (1, .ref c1), (2, V 0)]) (sbc 1 rfl (sbc 2 rfl (sbc 0 rfl sbn))) ?_
  refine tl2_Law_input_8  hk1 hn1 FU _ _ e_p31 _ _ ⟨Nat.le_refl _, Nat.le_refl _⟩ (inRk rfl) ?_
  refine x_aloadn (pc := 101) (i0 := 0) (j := 0) (dK D_Law_input_1 17 rfl) rfl rfl ?_
  refine x_aloadn (pc := 102) (i0 := 1) (j := 1) (dK D_Law_input_1 18 rfl) rfl rfl ?_
  refine gdE h ?_
  clear h
  intro hk33 h
  refine bnE h ?_
  clear h
  intro p32 e_p32 h
  refine x_callX (pc := 103) (As := []) (rest := [.ref 0]) (mc' := 0) (ms' := 0) (dK D_Law_input_1 19 rfl) Q_Law_14 sx_String_length (fitK rfl) (isK_at (Z := (p31.1.1, p31.1.2)) (ci := 16) hk33) rfl (leK rfl) (bdk hb) (bdn hb) (tg_String_length  e_p32) (kxI' (fun h_p32 => ?_))
  refine bnE h ?_
  clear h
  intro p34 e_p34 h
  refine x_callX (pc := 106) (As := [V p32]) (rest := []) (mc' := 0) (ms' := 0) (dK D_Law_input_1 20 rfl) Q_Law_8 sx_FP_truncateInput (fitK rfl) (isK_at (Z := (p31.1.1, p31.1.2)) (ci := 10) isK0) rfl (leK rfl) (bdk hb) (bdn hb) (clI (fun E => tf_FP_truncateInput (X := xz p31.1.2) xz_hc h_p32 e_p34)) (kxI' (fun h_p34 => ?_))
  refine x_pop (pc := 109) (dK D_Law_input_1 21 rfl) rfl ?_
  obtain rfl := Option.some.inj h
  exact wk_ret (pc := 110) (dK D_Law_input_1 22 rfl) rfl (bdk hb) (bdn hb) ⟨rfl, rfl⟩
theorem tg_Law_input {sc : SC} {c1 : Nat} {S : St} {L : List PC} {q : (LZ) × Nat × Nat} (h : gn_Law_input c1 S L = some q) : EvX sc M_Law_input [.ref 0, .ref c1] (wz (S, L)) q.2.1 q.2.2 (KXU q.1) := EvX.of pn2_Law rfl (leK rfl) (te_Law_input  h ⟨Nat.le_of_eq (Nat.zero_add _), Nat.le_of_eq (Nat.zero_add _)⟩)
def gn_LP_pages (c0 : Nat) (S : St) (L : List PC) : Option (Int) := bnO (gfI L c0 12 0) fun v1 => bnO (gfI L c0 12 1) fun v2 => nm (wr (v1 * v2)) fun v3 => some v3
theorem te_LP_pages {sc : SC} {c0 : Nat} {S : St} {L : List PC} {q : Int} (h : gn_LP_pages c0 S L = some q) {mc ms k n : Nat} (hk0 : k ≤ mc) (hn0 : n ≤ ms) : GX sc M_LP_pages mc ms 0 [(0, .ref c0)] [] (wz (S, L)) k n (KXI q (S, L)) := by
  unfold gn_LP_pages at h
  refine x_aloadn (pc := 0) (i0 := 0) (j := 0) (dK D_LP_pages 0 rfl) rfl rfl ?_
  refine bnE h ?_
  clear h
  intro v1 e_v1 h
  refine wx_getI (pc := 1) (ci := 12) (f := 0) e_v1 (dK D_LP_pages 1 rfl) q_767 (ltK rfl) (ltK rfl) ?_
  refine x_aloadn (pc := 4) (i0 := 0) (j := 0) (dK D_LP_pages 2 rfl) rfl rfl ?_
  refine bnE h ?_
  clear h
  intro v2 e_v2 h
  refine wx_getI (pc := 5) (ci := 12) (f := 1) e_v2 (dK D_LP_pages 3 rfl) q_769 (ltK rfl) (ltK rfl) ?_
  refine wx_imul (pc := 8) (dK D_LP_pages 4 rfl) ?_
  refine nmE h ?_
  clear h
  intro v3 e_v3 h
  refine wtop e_v3 ?_
  obtain rfl := Option.some.inj h
  exact wk_iretI (pc := 9) (dK D_LP_pages 5 rfl) rfl hk0 hn0 ⟨rfl, (Vn_in e_v3), rfl⟩
theorem tg_LP_pages {sc : SC} {c0 : Nat} {S : St} {L : List PC} {q : Int} (h : gn_LP_pages c0 S L = some q) : EvX sc M_LP_pages [.ref c0] (wz (S, L)) 0 0 (KXI q (S, L)) := EvX.of pn2_LP rfl (leK rfl) (te_LP_pages  h (Nat.le_refl _) (Nat.le_refl _))
def gn_AL_size (c0 : Nat) (S : St) (L : List PC) : Option (Int) := bnO (gfI L c0 13 1) fun v1 => some v1
theorem te_AL_size {sc : SC} {c0 : Nat} {S : St} {L : List PC} {q : Int} (h : gn_AL_size c0 S L = some q) {mc ms k n : Nat} (hk0 : k ≤ mc) (hn0 : n ≤ ms) : GX sc M_AL_size mc ms 0 [(0, .ref c0)] [] (wz (S, L)) k n (KXI q (S, L)) := by
  unfold gn_AL_size at h
  refine x_aloadn (pc := 0) (i0 := 0) (j := 0) (dK D_AL_size 0 rfl) rfl rfl ?_
  refine bnE h ?_
  clear h
  intro v1 e_v1 h
  refine wx_getI (pc := 1) (ci := 13) (f := 1) e_v1 (dK D_AL_size 1 rfl) q_755 (ltK rfl) (ltK rfl) ?_
  obtain rfl := Option.some.inj h
  exact wk_iretI (pc := 4) (dK D_AL_size 2 rfl) rfl hk0 hn0 ⟨rfl, (vI_at e_v1).2, rfl⟩
theorem tg_AL_size {sc : SC} {c0 : Nat} {S : St} {L : List PC} {q : Int} (h : gn_AL_size c0 S L = some q) : EvX sc M_AL_size [.ref c0] (wz (S, L)) 0 0 (KXI q (S, L)) := EvX.of pn2_AL rfl (leK rfl) (te_AL_size  h (Nat.le_refl _) (Nat.le_refl _))
def gn_Objs_checkIndex (a0 : Int) (a1 : Int) (S : St) (L : List PC) : Option (Int) := bnO (gn_Preconditions_checkIndex a0 a1 S L) fun p1 => some p1
theorem te_Objs_checkIndex {sc : SC} {a0 : Int} (ha0 : inR a0) {a1 : Int} (ha1 : inR a1) {S : St} {L : List PC} {q : Int} (h : gn_Objs_checkIndex a0 a1 S L = some q) {mc ms k n : Nat} (hk0 : k ≤ mc) (hn0 : n ≤ ms) : GX sc M_Objs_checkIndex mc ms 0 [(0, V a0), (1, V a1)] [] (wz (S, L)) k n (KXI q (S, L)) := by
  unfold gn_Objs_checkIndex at h
  refine x_iloadn (pc := 0) (i0 := 0) (j := 0) (dK D_Objs_checkIndex 0 rfl) rfl rfl ?_
  refine x_iloadn (pc := 1) (i0 := 1) (j := 1) (dK D_Objs_checkIndex 1 rfl) rfl rfl ?_
  refine x_null (pc := 2) (dK D_Objs_checkIndex 2 rfl) ?_
  refine bnE h ?_
  clear h
  intro p1 e_p1 h
  refine x_callS (pc := 3) (As := [V a0, V a1, .null]) (rest := []) (mc' := 0) (ms' := 0) (dK D_Objs_checkIndex 3 rfl) Q_Objs_105 (fitK rfl) rfl (leK rfl) hk0 hn0 (tg_Preconditions_checkIndex ha0 ha1 e_p1 (.inl rfl)) (kxI' (fun h_p1 => ?_))
  obtain rfl := Option.some.inj h
  exact wk_iretI (pc := 6) (dK D_Objs_checkIndex 4 rfl) rfl hk0 hn0 ⟨rfl, h_p1, rfl⟩
theorem tg_Objs_checkIndex {sc : SC} {a0 : Int} (ha0 : inR a0) {a1 : Int} (ha1 : inR a1) {S : St} {L : List PC} {q : Int} (h : gn_Objs_checkIndex a0 a1 S L = some q) : EvX sc M_Objs_checkIndex [V a0, V a1] (wz (S, L)) 0 0 (KXI q (S, L)) := EvX.of pn2_Objs rfl (leK rfl) (te_Objs_checkIndex ha0 ha1 h (Nat.le_refl _) (Nat.le_refl _))
def gn_AL_elementData (c0 : Nat) (a1 : Int) (S : St) (L : List PC) : Option (Value) := bnO (gfV L c0 13 0) fun v1 => rfB v1 fun r2 => bnO (alq L r2 a1) fun v3 => some v3
theorem te_AL_elementData {sc : SC} {c0 : Nat} {a1 : Int} (ha1 : inR a1) {S : St} {L : List PC} {q : Value} (h : gn_AL_elementData c0 a1 S L = some q) {mc ms k n : Nat} (hk0 : k ≤ mc) (hn0 : n ≤ ms) : GX sc M_AL_elementData mc ms 0 [(0, .ref c0), (1, V a1)] [] (wz (S, L)) k n (KXR q (S, L)) := by
  unfold gn_AL_elementData at h
  refine x_aloadn (pc := 0) (i0 := 0) (j := 0) (dK D_AL_elementData 0 rfl) rfl rfl ?_
  refine bnE h ?_
  clear h
  intro v1 e_v1 h
  refine wx_getV (pc := 1) (ci := 13) (f := 0) e_v1 (dK D_AL_elementData 1 rfl) q_752 (ltK rfl) (ltK rfl) (fun hv1 => ?_)
  refine x_iloadn (pc := 4) (i0 := 1) (j := 1) (dK D_AL_elementData 2 rfl) rfl rfl ?_
  refine rfE h ?_
  clear h
  intro r2 e_r2 h
  rw [e_r2]
  refine bnE h ?_
  clear h
  intro v3 e_v3 h
  refine wx_aald (pc := 5) e_v3 ha1 (dK D_AL_elementData 3 rfl) (fun hv3 => ?_)
  obtain rfl := Option.some.inj h
  exact wk_aret (pc := 6) hv3 (dK D_AL_elementData 4 rfl) rfl (by first | exact .inl ⟨_, rfl⟩ | exact .inr ⟨_, rfl⟩) hk0 hn0 ⟨rfl, hv3, rfl⟩
theorem tg_AL_elementData {sc : SC} {c0 : Nat} {a1 : Int} (ha1 : inR a1) {S : St} {L : List PC} {q : Value} (h : gn_AL_elementData c0 a1 S L = some q) : EvX sc M_AL_elementData [.ref c0, V a1] (wz (S, L)) 0 0 (KXR q (S, L)) := EvX.of pn2_AL rfl (leK rfl) (te_AL_elementData ha1 h (Nat.le_refl _) (Nat.le_refl _))
def gn_AL_get (c0 : Nat) (a1 : Int) (S : St) (L : List PC) : Option (Value) := bnO (gfI L c0 13 1) fun v1 => bnO (gn_Objs_checkIndex a1 v1 S L) fun p2 => if isK L c0 13 = true then (bnO (gn_AL_elementData c0 a1 S L) fun p3 => some p3) else none
theorem te_AL_get {sc : SC} {c0 : Nat} {a1 : Int} (ha1 : inR a1) {S : St} {L : List PC} {q : Value} (h : gn_AL_get c0 a1 S L = some q) {mc ms k n : Nat} (hk0 : k ≤ mc) (hn0 : n ≤ ms) : GX sc M_AL_get mc ms 0 [(0, .ref c0), (1, V a1)] [] (wz (S, L)) k n (KXR q (S, L)) := by
  unfold gn_AL_get at h
  refine x_iloadn (pc := 0) (i0 := 1) (j := 1) (dK D_AL_get 0 rfl) rfl rfl ?_
  refine x_aloadn (pc := 1) (i0 := 0) (j := 0) (dK D_AL_get 1 rfl) rfl rfl ?_
  refine bnE h ?_
  clear h
  intro v1 e_v1 h
  refine wx_getI (pc := 2) (ci := 13) (f := 1) e_v1 (dK D_AL_get 2 rfl) q_755 (ltK rfl) (ltK rfl) ?_
  refine bnE h ?_
  clear h
  intro p2 e_p2 h
  refine x_callS (pc := 5) (As := [V a1, V v1]) (rest := []) (mc' := 0) (ms' := 0) (dK D_AL_get 3 rfl) Q_AL_118 (fitK rfl) rfl (leK rfl) hk0 hn0 (tg_Objs_checkIndex ha1 (vI_at e_v1).2 e_p2) (kxI' (fun h_p2 => ?_))
  refine x_pop (pc := 8) (dK D_AL_get 4 rfl) rfl ?_
  refine x_aloadn (pc := 9) (i0 := 0) (j := 0) (dK D_AL_get 5 rfl) rfl rfl ?_
  refine x_iloadn (pc := 10) (i0 := 1) (j := 1) (dK D_AL_get 6 rfl) rfl rfl ?_
  refine gdE h ?_
  clear h
  intro hk4 h
  refine bnE h ?_
  clear h
  intro p3 e_p3 h
  refine x_callX (pc := 11) (As := [V a1]) (rest := []) (mc' := 0) (ms' := 0) (dK D_AL_get 7 rfl) Q_AL_123 sx_AL_elementData (fitK rfl) (isK_at (Z := (S, L)) (ci := 13) hk4) rfl (leK rfl) hk0 hn0 (tg_AL_elementData ha1 e_p3) (kxR (fun h_p3 => ?_))
  obtain rfl := Option.some.inj h
  exact wk_aret (pc := 14) h_p3 (dK D_AL_get 8 rfl) rfl (by first | exact .inl ⟨_, rfl⟩ | exact .inr ⟨_, rfl⟩) hk0 hn0 ⟨rfl, h_p3, rfl⟩
theorem tg_AL_get {sc : SC} {c0 : Nat} {a1 : Int} (ha1 : inR a1) {S : St} {L : List PC} {q : Value} (h : gn_AL_get c0 a1 S L = some q) : EvX sc M_AL_get [.ref c0, V a1] (wz (S, L)) 0 0 (KXR q (S, L)) := EvX.of pn2_AL rfl (leK rfl) (te_AL_get ha1 h (Nat.le_refl _) (Nat.le_refl _))
def gn_Law_told (a0 : Int) (S : St) (L : List PC) : Option (Int) := if a0 = 0 then (some (-1)) else (some a0)
theorem te_Law_told {sc : SC} {a0 : Int} (ha0 : inR a0) {S : St} {L : List PC} {q : Int} (h : gn_Law_told a0 S L = some q) {mc ms k n : Nat} (hk0 : k ≤ mc) (hn0 : n ≤ ms) : GX sc M_Law_told mc ms 0 [(0, V a0)] [] (wz (S, L)) k n (KXI q (S, L)) := by
  unfold gn_Law_told at h
  refine x_iloadn (pc := 0) (i0 := 0) (j := 0) (dK D_Law_told 0 rfl) rfl rfl ?_
  refine wx_if_ne (pc := 1) (t := 8) (dK D_Law_told 1 rfl) rfl ha0 (fun hc1 => ?_) (fun hc1 => ?_)
  · replace h := ifN h hc1
    refine x_iloadn (pc := 8) (i0 := 0) (j := 0) (dK D_Law_told 4 rfl) rfl rfl ?_
    obtain rfl := Option.some.inj h
    exact wk_iretI (pc := 9) (dK D_Law_told 5 rfl) rfl hk0 hn0 ⟨rfl, ha0, rfl⟩
  · replace h := ifP h hc1
    refine wx_iconst (pc := 4) (dK D_Law_told 2 rfl) ?_
    refine x_goto (pc := 5) (tgt := 9) (dK D_Law_told 3 rfl) rfl ?_
    obtain rfl := Option.some.inj h
    exact wk_iretI (pc := 9) (dK D_Law_told 5 rfl) rfl hk0 hn0 ⟨rfl, (inRk rfl), rfl⟩
theorem tg_Law_told {sc : SC} {a0 : Int} (ha0 : inR a0) {S : St} {L : List PC} {q : Int} (h : gn_Law_told a0 S L = some q) : EvX sc M_Law_told [V a0] (wz (S, L)) 0 0 (KXI q (S, L)) := EvX.of pn2_Law rfl (leK rfl) (te_Law_told ha0 h (Nat.le_refl _) (Nat.le_refl _))
