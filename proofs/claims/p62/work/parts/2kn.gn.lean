def gn_SL_newString (c0 : Nat) (a1 : Int) (a2 : Int) (S : St) (L : List PC) : Option ((Value × LZ) × Nat × Nat) := if a2 = 0 then (some (((.ref (XB + 8)), (S, L)), 0, 0)) else (if L.length < 900000000 then adC 1 4 (nw L (16, dfl 16) fun r2 L3 => nm (wr (a1 + a2)) fun v5 => bnO (gn_Ars_copyOfRange c0 a1 v5 S L3) fun p6 => adC p6.2.1 p6.2.2 (rfB p6.1.1 fun r7 => bnO (gn_String_init3 r2 r7 0 p6.1.2.1 p6.1.2.2) fun p8 => adC p8.2.1 p8.2.2 (some (((.ref r2), (p8.1.1, p8.1.2)), 0, 0)))) else none)
theorem te_SL_newString {sc : SC} {c0 : Nat} {a1 : Int} (ha1 : inR a1) {a2 : Int} (ha2 : inR a2) {S : St} {L : List PC} {q : (Value × LZ) × Nat × Nat} (h : gn_SL_newString c0 a1 a2 S L = some q) {mc ms k n : Nat} (hb : Bd k n mc ms q) : GX sc M_SL_newString mc ms 0 [(0, .ref c0), (1, V a1), (2, V a2)] [] (wz (S, L)) k n (KXR q.1.1 q.1.2) := by
  unfold gn_SL_newString at h
  refine x_iloadn (pc := 0) (i0 := 2) (j := 2) (dK D_SL_newString 0 rfl) rfl rfl ?_
  refine wx_if_ne (pc := 1) (t := 7) (dK D_SL_newString 1 rfl) rfl ha2 (fun hc9 => ?_) (fun hc9 => ?_)
  · replace h := ifN h hc9
    refine gdE h ?_
    clear h
    intro hl1 h
    obtain ⟨y4, h9, e9⟩ := adE2 h
    clear h
    subst e9
    have h := h9
    clear h9
    refine nwE h ?_
    clear h
    intro r2 L3 e_r2 e_L3 h
    have hk1 := bd1 hb
    have hn1 := bd2 hb
    replace hb := bdA hb
    refine wn_new (Z := (S, L)) (pc := 7) (ci := 16) (N := 4) e_r2 e_L3 hl1 rfl (dK D_SL_newString 4 rfl) (ltK rfl) q_2059 q_1180 q_25 hk1 hn1 ?_
    refine x_dup (pc := 10) (dK D_SL_newString 5 rfl) rfl ?_
    refine x_aloadn (pc := 11) (i0 := 0) (j := 0) (dK D_SL_newString 6 rfl) rfl rfl ?_
    refine x_iloadn (pc := 12) (i0 := 1) (j := 1) (dK D_SL_newString 7 rfl) rfl rfl ?_
    refine x_iloadn (pc := 13) (i0 := 1) (j := 1) (dK D_SL_newString 8 rfl) rfl rfl ?_
    refine x_iloadn (pc := 14) (i0 := 2) (j := 2) (dK D_SL_newString 9 rfl) rfl rfl ?_
    refine wx_iadd (pc := 15) (dK D_SL_newString 10 rfl) ?_
    refine nmE h ?_
    clear h
    intro v5 e_v5 h
    refine wtop e_v5 ?_
    refine bnE h ?_
    clear h
    intro p6 e_p6 h
    obtain ⟨yp6, h9, e9⟩ := adE2 h
    clear h
    subst e9
    have h := h9
    clear h9
    have hk1 := bd1 hb
    have hn1 := bd2 hb
    replace hb := bdA hb
    refine x_callS (pc := 16) (As := [.ref c0, V a1, V v5]) (rest := [.ref r2, .ref r2]) (mc' := p6.2.1) (ms' := p6.2.2) (dK D_SL_newString 11 rfl) Q_SL_232 (fitK rfl) rfl (leK rfl) hk1 hn1 (tg_Ars_copyOfRange ha1 (Vn_in e_v5) e_p6) (kxR (fun h_p6 => ?_))
    refine wx_iconst (pc := 19) (dK D_SL_newString 12 rfl) ?_
    refine rfE h ?_
    clear h
    intro r7 e_r7 h
    rw [e_r7]
    refine bnE h ?_
    clear h
    intro p8 e_p8 h
    obtain ⟨yp8, h9, e9⟩ := adE2 h
    clear h
    subst e9
    have h := h9
    clear h9
    have hk1 := bd1 hb
    have hn1 := bd2 hb
    replace hb := bdA hb
    refine x_callI (pc := 20) (As := [.ref r7, V 0]) (rest := [.ref r2]) (mc' := p8.2.1) (ms' := p8.2.2) (dK D_SL_newString 13 rfl) Q_SL_112 (fitK rfl) rfl (leK rfl) hk1 hn1 (tg_String_init3 (inRk rfl) e_p8) (kxU ?_)
    obtain rfl := Option.some.inj h
    exact wk_aret (pc := 23) (.inr ⟨_, rfl⟩) (dK D_SL_newString 14 rfl) rfl (by first | exact .inl ⟨_, rfl⟩ | exact .inr ⟨_, rfl⟩) (bdk hb) (bdn hb) ⟨rfl, (.inr ⟨_, rfl⟩), rfl⟩
  · replace h := ifP h hc9
    refine x_ldcS (own := "java/lang/StringLatin1") (text := "") (j := 8) rfl (dK D_SL_newString 2 rfl) (List.mem_of_getElem? (i := 24) rfl) ?_
    obtain rfl := Option.some.inj h
    exact wk_aret (pc := 6) (.inr ⟨_, rfl⟩) (dK D_SL_newString 3 rfl) rfl (by first | exact .inl ⟨_, rfl⟩ | exact .inr ⟨_, rfl⟩) (bdk hb) (bdn hb) ⟨rfl, (.inr ⟨_, rfl⟩), rfl⟩
theorem tg_SL_newString {sc : SC} {c0 : Nat} {a1 : Int} (ha1 : inR a1) {a2 : Int} (ha2 : inR a2) {S : St} {L : List PC} {q : (Value × LZ) × Nat × Nat} (h : gn_SL_newString c0 a1 a2 S L = some q) : EvX sc M_SL_newString [.ref c0, V a1, V a2] (wz (S, L)) q.2.1 q.2.2 (KXR q.1.1 q.1.2) := EvX.of pn2_SL rfl (leK rfl) (te_SL_newString ha1 ha2 h ⟨Nat.le_of_eq (Nat.zero_add _), Nat.le_of_eq (Nat.zero_add _)⟩)
def gn_String_substring2 (c0 : Nat) (a1 : Int) (a2 : Int) (S : St) (L : List PC) : Option ((Value × LZ) × Nat × Nat) := if isK L c0 16 = true then (bnO (gn_String_length c0 S L) fun p1 => bnO (gn_String_checkBoundsBeginEnd a1 a2 p1 S L) fun p3 => if a1 = 0 then (if a2 = p1 then (some (((.ref c0), (S, L)), 0, 0)) else (nm (wr (a2 - a1)) fun v11 => if isK L c0 16 = true then (bnO (gn_String_isLatin1 c0 S L) fun p12 => if p12 = true then (bnO (gfV L c0 16 0) fun v15 => rfB v15 fun r16 => bnO (gn_SL_newString r16 a1 v11 S L) fun p17 => adC p17.2.1 p17.2.2 (some ((p17.1.1, (p17.1.2.1, p17.1.2.2)), 0, 0))) else none) else none)) else (nm (wr (a2 - a1)) fun v4 => if isK L c0 16 = true then (bnO (gn_String_isLatin1 c0 S L) fun p5 => if p5 = true then (bnO (gfV L c0 16 0) fun v8 => rfB v8 fun r9 => bnO (gn_SL_newString r9 a1 v4 S L) fun p10 => adC p10.2.1 p10.2.2 (some ((p10.1.1, (p10.1.2.1, p10.1.2.2)), 0, 0))) else none) else none)) else none
theorem te_String_substring2 {sc : SC} {c0 : Nat} {a1 : Int} (ha1 : inR a1) {a2 : Int} (ha2 : inR a2) {S : St} {L : List PC} {q : (Value × LZ) × Nat × Nat} (h : gn_String_substring2 c0 a1 a2 S L = some q) {mc ms k n : Nat} (hb : Bd k n mc ms q) : GX sc M_String_substring2 mc ms 0 [(0, .ref c0), (1, V a1), (2, V a2)] [] (wz (S, L)) k n (KXR q.1.1 q.1.2) := by
  unfold gn_String_substring2 at h
  refine x_aloadn (pc := 0) (i0 := 0) (j := 0) (dK D_String_substring2 0 rfl) rfl rfl ?_
  refine gdE h ?_
  clear h
  intro hk2 h
  refine bnE h ?_
  clear h
  intro p1 e_p1 h
  refine x_callX (pc := 1) (As := []) (rest := []) (mc' := 0) (ms' := 0) (dK D_String_substring2 1 rfl) Q_String_505 sx_String_length (fitK rfl) (isK_at (Z := (S, L)) (ci := 16) hk2) rfl (leK rfl) (bdk hb) (bdn hb) (tg_String_length  e_p1) (kxI' (fun h_p1 => ?_))
  refine x_istoren (pc := 4) (i0 := 3) (ls2 := [(3, V p1), (0, .ref c0), (1, V a1), (2, V a2)]) (dK D_String_substring2 2 rfl) rfl (ltK rfl) rfl ?_
  refine x_iloadn (pc := 5) (i0 := 1) (j := 2) (dK D_String_substring2 3 rfl) rfl rfl ?_
  refine x_iloadn (pc := 6) (i0 := 2) (j := 3) (dK D_String_substring2 4 rfl) rfl rfl ?_
  refine x_iloadn (pc := 7) (i0 := 3) (j := 0) (dK D_String_substring2 5 rfl) rfl rfl ?_
  refine bnE h ?_
  clear h
  intro p3 e_p3 h
  refine x_callS (pc := 8) (As := [V a1, V a2, V p1]) (rest := []) (mc' := 0) (ms' := 0) (dK D_String_substring2 6 rfl) Q_String_521 (fitK rfl) rfl (leK rfl) (bdk hb) (bdn hb) (tg_String_checkBoundsBeginEnd ha1 ha2 h_p1 e_p3) (kxU ?_)
  refine x_iloadn (pc := 11) (i0 := 1) (j := 2) (dK D_String_substring2 7 rfl) rfl rfl ?_
  refine wx_if_ne (pc := 12) (t := 22) (dK D_String_substring2 8 rfl) rfl ha1 (fun hc19 => ?_) (fun hc19 => ?_)
  · replace h := ifN h hc19
    refine x_iloadn (pc := 22) (i0 := 2) (j := 3) (dK D_String_substring2 14 rfl) rfl rfl ?_
    refine x_iloadn (pc := 23) (i0 := 1) (j := 2) (dK D_String_substring2 15 rfl) rfl rfl ?_
    refine wx_isub (pc := 24) (dK D_String_substring2 16 rfl) ?_
    refine nmE h ?_
    clear h
    intro v4 e_v4 h
    refine wtop e_v4 ?_
    refine x_istore (pc := 25) (ls2 := [(4, V v4), (3, V p1), (0, .ref c0), (1, V a1), (2, V a2)]) (dK D_String_substring2 17 rfl) (ltK rfl) rfl ?_
    refine x_aloadn (pc := 27) (i0 := 0) (j := 2) (dK D_String_substring2 18 rfl) rfl rfl ?_
    refine gdE h ?_
    clear h
    intro hk6 h
    refine bnE h ?_
    clear h
    intro p5 e_p5 h
    refine x_callX (pc := 28) (As := []) (rest := []) (mc' := 0) (ms' := 0) (dK D_String_substring2 19 rfl) Q_String_492 sx_String_isLatin1 (fitK rfl) (isK_at (Z := (S, L)) (ci := 16) hk6) rfl (leK rfl) (bdk hb) (bdn hb) (tg_String_isLatin1  e_p5) (kxB' ?_)
    refine wx_ifB_eq (pc := 31) (b := p5) (t := 47) (dK D_String_substring2 20 rfl) rfl (fun hc7 => ?_) (fun hc7 => ?_)
    · replace h := ifP h hc7
      refine x_aloadn (pc := 34) (i0 := 0) (j := 2) (dK D_String_substring2 21 rfl) rfl rfl ?_
      refine bnE h ?_
      clear h
      intro v8 e_v8 h
      refine wx_getV (pc := 35) (ci := 16) (f := 0) e_v8 (dK D_String_substring2 22 rfl) q_1460 (ltK rfl) (ltK rfl) (fun hv8 => ?_)
      refine x_iloadn (pc := 38) (i0 := 1) (j := 3) (dK D_String_substring2 23 rfl) rfl rfl ?_
      refine x_iload (pc := 39) (j := 0) (dK D_String_substring2 24 rfl) rfl ?_
      refine rfE h ?_
      clear h
      intro r9 e_r9 h
      rw [e_r9]
      refine bnE h ?_
      clear h
      intro p10 e_p10 h
      obtain ⟨yp10, h9, e9⟩ := adE2 h
      clear h
      subst e9
      have h := h9
      clear h9
      have hk1 := bd1 hb
      have hn1 := bd2 hb
      replace hb := bdA hb
      refine x_callS (pc := 41) (As := [.ref r9, V a1, V v4]) (rest := []) (mc' := p10.2.1) (ms' := p10.2.2) (dK D_String_substring2 25 rfl) Q_String_685 (fitK rfl) rfl (leK rfl) hk1 hn1 (tg_SL_newString ha1 (Vn_in e_v4) e_p10) (kxR (fun h_p10 => ?_))
      refine x_goto (pc := 44) (tgt := 57) (dK D_String_substring2 26 rfl) rfl ?_
      obtain rfl := Option.some.inj h
      exact wk_aret (pc := 57) h_p10 (dK D_String_substring2 32 rfl) rfl (by first | exact .inl ⟨_, rfl⟩ | exact .inr ⟨_, rfl⟩) (bdk hb) (bdn hb) ⟨rfl, h_p10, rfl⟩
    · replace h := ifN h hc7
      exact nomatch h
  · replace h := ifP h hc19
    refine x_iloadn (pc := 15) (i0 := 2) (j := 3) (dK D_String_substring2 9 rfl) rfl rfl ?_
    refine x_iloadn (pc := 16) (i0 := 3) (j := 0) (dK D_String_substring2 10 rfl) rfl rfl ?_
    refine wx_icmp_ne (pc := 17) (t := 22) (dK D_String_substring2 11 rfl) rfl ha2 h_p1 (fun hc18 => ?_) (fun hc18 => ?_)
    · replace h := ifN h hc18
      refine x_iloadn (pc := 22) (i0 := 2) (j := 3) (dK D_String_substring2 14 rfl) rfl rfl ?_
      refine x_iloadn (pc := 23) (i0 := 1) (j := 2) (dK D_String_substring2 15 rfl) rfl rfl ?_
      refine wx_isub (pc := 24) (dK D_String_substring2 16 rfl) ?_
      refine nmE h ?_
      clear h
      intro v11 e_v11 h
      refine wtop e_v11 ?_
      refine x_istore (pc := 25) (ls2 := [(4, V v11), (3, V p1), (0, .ref c0), (1, V a1), (2, V a2)]) (dK D_String_substring2 17 rfl) (ltK rfl) rfl ?_
      refine x_aloadn (pc := 27) (i0 := 0) (j := 2) (dK D_String_substring2 18 rfl) rfl rfl ?_
      refine gdE h ?_
      clear h
      intro hk13 h
      refine bnE h ?_
      clear h
      intro p12 e_p12 h
      refine x_callX (pc := 28) (As := []) (rest := []) (mc' := 0) (ms' := 0) (dK D_String_substring2 19 rfl) Q_String_492 sx_String_isLatin1 (fitK rfl) (isK_at (Z := (S, L)) (ci := 16) hk13) rfl (leK rfl) (bdk hb) (bdn hb) (tg_String_isLatin1  e_p12) (kxB' ?_)
      refine wx_ifB_eq (pc := 31) (b := p12) (t := 47) (dK D_String_substring2 20 rfl) rfl (fun hc14 => ?_) (fun hc14 => ?_)
      · replace h := ifP h hc14
        refine x_aloadn (pc := 34) (i0 := 0) (j := 2) (dK D_String_substring2 21 rfl) rfl rfl ?_
        refine bnE h ?_
        clear h
        intro v15 e_v15 h
        refine wx_getV (pc := 35) (ci := 16) (f := 0) e_v15 (dK D_String_substring2 22 rfl) q_1460 (ltK rfl) (ltK rfl) (fun hv15 => ?_)
        refine x_iloadn (pc := 38) (i0 := 1) (j := 3) (dK D_String_substring2 23 rfl) rfl rfl ?_
        refine x_iload (pc := 39) (j := 0) (dK D_String_substring2 24 rfl) rfl ?_
        refine rfE h ?_
        clear h
        intro r16 e_r16 h
        rw [e_r16]
        refine bnE h ?_
        clear h
        intro p17 e_p17 h
        obtain ⟨yp17, h9, e9⟩ := adE2 h
        clear h
        subst e9
        have h := h9
        clear h9
        have hk1 := bd1 hb
        have hn1 := bd2 hb
        replace hb := bdA hb
        refine x_callS (pc := 41) (As := [.ref r16, V a1, V v11]) (rest := []) (mc' := p17.2.1) (ms' := p17.2.2) (dK D_String_substring2 25 rfl) Q_String_685 (fitK rfl) rfl (leK rfl) hk1 hn1 (tg_SL_newString ha1 (Vn_in e_v11) e_p17) (kxR (fun h_p17 => ?_))
        refine x_goto (pc := 44) (tgt := 57) (dK D_String_substring2 26 rfl) rfl ?_
        obtain rfl := Option.some.inj h
        exact wk_aret (pc := 57) h_p17 (dK D_String_substring2 32 rfl) rfl (by first | exact .inl ⟨_, rfl⟩ | exact .inr ⟨_, rfl⟩) (bdk hb) (bdn hb) ⟨rfl, h_p17, rfl⟩
      · replace h := ifN h hc14
        exact nomatch h
    · replace h := ifP h hc18
      refine x_aloadn (pc := 20) (i0 := 0) (j := 1) (dK D_String_substring2 12 rfl) rfl rfl ?_
      obtain rfl := Option.some.inj h
      exact wk_aret (pc := 21) (.inr ⟨_, rfl⟩) (dK D_String_substring2 13 rfl) rfl (by first | exact .inl ⟨_, rfl⟩ | exact .inr ⟨_, rfl⟩) (bdk hb) (bdn hb) ⟨rfl, (.inr ⟨_, rfl⟩), rfl⟩
theorem tg_String_substring2 {sc : SC} {c0 : Nat} {a1 : Int} (ha1 : inR a1) {a2 : Int} (ha2 : inR a2) {S : St} {L : List PC} {q : (Value × LZ) × Nat × Nat} (h : gn_String_substring2 c0 a1 a2 S L = some q) : EvX sc M_String_substring2 [.ref c0, V a1, V a2] (wz (S, L)) q.2.1 q.2.2 (KXR q.1.1 q.1.2) := EvX.of pn2_String rfl (leK rfl) (te_String_substring2 ha1 ha2 h ⟨Nat.le_of_eq (Nat.zero_add _), Nat.le_of_eq (Nat.zero_add _)⟩)
def gn_String_substring (c0 : Nat) (a1 : Int) (S : St) (L : List PC) : Option ((Value × LZ) × Nat × Nat) := if isK L c0 16 = true then (bnO (gn_String_length c0 S L) fun p1 => if isK L c0 16 = true then (bnO (gn_String_substring2 c0 a1 p1 S L) fun p3 => adC p3.2.1 p3.2.2 (some ((p3.1.1, (p3.1.2.1, p3.1.2.2)), 0, 0))) else none) else none
theorem te_String_substring {sc : SC} {c0 : Nat} {a1 : Int} (ha1 : inR a1) {S : St} {L : List PC} {q : (Value × LZ) × Nat × Nat} (h : gn_String_substring c0 a1 S L = some q) {mc ms k n : Nat} (hb : Bd k n mc ms q) : GX sc M_String_substring mc ms 0 [(0, .ref c0), (1, V a1)] [] (wz (S, L)) k n (KXR q.1.1 q.1.2) := by
  unfold gn_String_substring at h
  refine x_aloadn (pc := 0) (i0 := 0) (j := 0) (dK D_String_substring 0 rfl) rfl rfl ?_
  refine x_iloadn (pc := 1) (i0 := 1) (j := 1) (dK D_String_substring 1 rfl) rfl rfl ?_
  refine x_aloadn (pc := 2) (i0 := 0) (j := 0) (dK D_String_substring 2 rfl) rfl rfl ?_
  refine gdE h ?_
  clear h
  intro hk2 h
  refine bnE h ?_
  clear h
  intro p1 e_p1 h
  refine x_callX (pc := 3) (As := []) (rest := [V a1, .ref c0]) (mc' := 0) (ms' := 0) (dK D_String_substring 3 rfl) Q_String_505 sx_String_length (fitK rfl) (isK_at (Z := (S, L)) (ci := 16) hk2) rfl (leK rfl) (bdk hb) (bdn hb) (tg_String_length  e_p1) (kxI' (fun h_p1 => ?_))
  refine gdE h ?_
  clear h
  intro hk4 h
  refine bnE h ?_
  clear h
  intro p3 e_p3 h
  obtain ⟨yp3, h9, e9⟩ := adE2 h
  clear h
  subst e9
  have h := h9
  clear h9
  have hk1 := bd1 hb
  have hn1 := bd2 hb
  replace hb := bdA hb
  refine x_callX (pc := 6) (As := [V a1, V p1]) (rest := []) (mc' := p3.2.1) (ms' := p3.2.2) (dK D_String_substring 4 rfl) Q_String_681 sx_String_substring2 (fitK rfl) (isK_at (Z := (S, L)) (ci := 16) hk4) rfl (leK rfl) hk1 hn1 (tg_String_substring2 ha1 h_p1 e_p3) (kxR (fun h_p3 => ?_))
  obtain rfl := Option.some.inj h
  exact wk_aret (pc := 9) h_p3 (dK D_String_substring 5 rfl) rfl (by first | exact .inl ⟨_, rfl⟩ | exact .inr ⟨_, rfl⟩) (bdk hb) (bdn hb) ⟨rfl, h_p3, rfl⟩
theorem tg_String_substring {sc : SC} {c0 : Nat} {a1 : Int} (ha1 : inR a1) {S : St} {L : List PC} {q : (Value × LZ) × Nat × Nat} (h : gn_String_substring c0 a1 S L = some q) : EvX sc M_String_substring [.ref c0, V a1] (wz (S, L)) q.2.1 q.2.2 (KXR q.1.1 q.1.2) := EvX.of pn2_String rfl (leK rfl) (te_String_substring ha1 h ⟨Nat.le_of_eq (Nat.zero_add _), Nat.le_of_eq (Nat.zero_add _)⟩)
def gn_AL_fastRemove (c0 : Nat) (c1 : Nat) (a2 : Int) (S : St) (L : List PC) : Option ((LZ) × Nat × Nat) := bnO (gfI L c0 13 2) fun v1 => nm (wr (v1 + 1)) fun v2 => bnO (pf L c0 13 2 (V v2)) fun L3 => bnO (gfI L3 c0 13 1) fun v4 => nm (wr (v4 - 1)) fun v5 => nm (wr (v4 - 1)) fun v6 => if v6 ≤ a2 then (bnO (pf L3 c0 13 1 (V v5)) fun L7 => if okE L7 .null = true then bnO (ast L7 103 c1 v5 .null) fun L8 => some ((S, L8), 0, 0) else none) else (nm (wr (v5 - a2)) fun v10 => nm (wr (a2 + 1)) fun v11 => bnO (cpQ L3 c1 v11 c1 a2 v10) fun L12 => bnO (pf L12 c0 13 1 (V v5)) fun L13 => if okE L13 .null = true then bnO (ast L13 103 c1 v5 .null) fun L14 => some ((S, L14), 0, 0) else none)
theorem te_AL_fastRemove {sc : SC} {c0 : Nat} {c1 : Nat} {a2 : Int} (ha2 : inR a2) {S : St} {L : List PC} {q : (LZ) × Nat × Nat} (h : gn_AL_fastRemove c0 c1 a2 S L = some q) {mc ms k n : Nat} (hb : Bd k n mc ms q) : GX sc M_AL_fastRemove mc ms 0 [(0, .ref c0), (1, .ref c1), (2, V a2)] [] (wz (S, L)) k n (KXU q.1) := by
  unfold gn_AL_fastRemove at h
  refine x_aloadn (pc := 0) (i0 := 0) (j := 0) (dK D_AL_fastRemove 0 rfl) rfl rfl ?_
  refine x_dup (pc := 1) (dK D_AL_fastRemove 1 rfl) rfl ?_
  refine bnE h ?_
  clear h
  intro v1 e_v1 h
  refine wx_getIR (pc := 2) (f := 2) e_v1 (dK D_AL_fastRemove 2 rfl) q_759 q_758 (ltK rfl) ?_
  refine wx_iconst (pc := 5) (dK D_AL_fastRemove 3 rfl) ?_
  refine wx_iadd (pc := 6) (dK D_AL_fastRemove 4 rfl) ?_
  refine nmE h ?_
  clear h
  intro v2 e_v2 h
  refine wtop e_v2 ?_
  refine bnE h ?_
  clear h
  intro L3 e_L3 h
  refine wx_putR (Z := (S, L)) (pc := 7) (ci := 13) (f := 2) e_L3 (dK D_AL_fastRemove 5 rfl) q_759 q_758 (ltK rfl) (ltK rfl) rfl okInt ?_
  refine x_aloadn (pc := 10) (i0 := 0) (j := 0) (dK D_AL_fastRemove 6 rfl) rfl rfl ?_
  refine bnE h ?_
  clear h
  intro v4 e_v4 h
  refine wx_getI (pc := 11) (ci := 13) (f := 1) e_v4 (dK D_AL_fastRemove 7 rfl) q_755 (ltK rfl) (ltK rfl) ?_
  refine wx_iconst (pc := 14) (dK D_AL_fastRemove 8 rfl) ?_
  refine wx_isub (pc := 15) (dK D_AL_fastRemove 9 rfl) ?_
  refine x_dup (pc := 16) (dK D_AL_fastRemove 10 rfl) rfl ?_
  refine nmE h ?_
  clear h
  intro v5 e_v5 h
  refine wtop e_v5 ?_
  refine x_istoren (pc := 17) (i0 := 3) (ls2 := [(3, V v5), (0, .ref c0), (1, .ref c1), (2, V a2)]) (dK D_AL_fastRemove 11 rfl) rfl (ltK rfl) rfl ?_
  refine x_iloadn (pc := 18) (i0 := 2) (j := 3) (dK D_AL_fastRemove 12 rfl) rfl rfl ?_
  refine nmE h ?_
  clear h
  intro v6 e_v6 h
  refine wsk (st' := [V a2, V v6]) (congrArg (fun z9 => [V a2, z9]) (Vn e_v6)) ?_
  refine wx_icmp_le (pc := 19) (t := 34) (dK D_AL_fastRemove 13 rfl) rfl (Vn_in e_v6) ha2 (fun hc16 => ?_) (fun hc16 => ?_)
  · replace h := ifP h hc16
    refine x_aloadn (pc := 34) (i0 := 1) (j := 2) (dK D_AL_fastRemove 24 rfl) rfl rfl ?_
    refine x_aloadn (pc := 35) (i0 := 0) (j := 1) (dK D_AL_fastRemove 25 rfl) rfl rfl ?_
    refine x_iloadn (pc := 36) (i0 := 3) (j := 0) (dK D_AL_fastRemove 26 rfl) rfl rfl ?_
    refine x_dup_x1 (pc := 37) (dK D_AL_fastRemove 27 rfl) rfl rfl ?_
    refine bnE h ?_
    clear h
    intro L7 e_L7 h
    refine wx_put (Z := (S, L3)) (pc := 38) (ci := 13) (f := 1) e_L7 (dK D_AL_fastRemove 28 rfl) q_755 (ltK rfl) (ltK rfl) rfl okInt ?_
    refine x_null (pc := 41) (dK D_AL_fastRemove 29 rfl) ?_
    refine gdE h ?_
    clear h
    intro hk9 h
    refine bnE h ?_
    clear h
    intro L8 e_L8 h
    refine wx_aast (Z := (S, L7)) (pc := 42) e_L8 hk9 (Vn_in e_v5) (dK D_AL_fastRemove 30 rfl) ?_
    obtain rfl := Option.some.inj h
    exact wk_ret (pc := 43) (dK D_AL_fastRemove 31 rfl) rfl (bdk hb) (bdn hb) ⟨rfl, rfl⟩
  · replace h := ifN h hc16
    refine x_aloadn (pc := 22) (i0 := 1) (j := 2) (dK D_AL_fastRemove 14 rfl) rfl rfl ?_
    refine x_iloadn (pc := 23) (i0 := 2) (j := 3) (dK D_AL_fastRemove 15 rfl) rfl rfl ?_
    refine wx_iconst (pc := 24) (dK D_AL_fastRemove 16 rfl) ?_
    refine wx_iadd (pc := 25) (dK D_AL_fastRemove 17 rfl) ?_
    refine x_aloadn (pc := 26) (i0 := 1) (j := 2) (dK D_AL_fastRemove 18 rfl) rfl rfl ?_
    refine x_iloadn (pc := 27) (i0 := 2) (j := 3) (dK D_AL_fastRemove 19 rfl) rfl rfl ?_
    refine x_iloadn (pc := 28) (i0 := 3) (j := 0) (dK D_AL_fastRemove 20 rfl) rfl rfl ?_
    refine x_iloadn (pc := 29) (i0 := 2) (j := 3) (dK D_AL_fastRemove 21 rfl) rfl rfl ?_
    refine wx_isub (pc := 30) (dK D_AL_fastRemove 22 rfl) ?_
    refine nmE h ?_
    clear h
    intro v10 e_v10 h
    refine wtop e_v10 ?_
    refine nmE h ?_
    clear h
    intro v11 e_v11 h
    refine wsk (st' := [V v10, V a2, .ref c1, V v11, .ref c1]) (congrArg (fun z9 => [V v10, V a2, .ref c1, z9, .ref c1]) (Vn e_v11)) ?_
    refine bnE h ?_
    clear h
    intro L12 e_L12 h
    refine wx_copyQ (Z := (S, L3)) (pc := 31) e_L12 (Vn_in e_v11) ha2 (Vn_in e_v10) (dK D_AL_fastRemove 23 rfl) q_1789 (leK rfl) (leK rfl) ?_
    refine x_aloadn (pc := 34) (i0 := 1) (j := 2) (dK D_AL_fastRemove 24 rfl) rfl rfl ?_
    refine x_aloadn (pc := 35) (i0 := 0) (j := 1) (dK D_AL_fastRemove 25 rfl) rfl rfl ?_
    refine x_iloadn (pc := 36) (i0 := 3) (j := 0) (dK D_AL_fastRemove 26 rfl) rfl rfl ?_
    refine x_dup_x1 (pc := 37) (dK D_AL_fastRemove 27 rfl) rfl rfl ?_
    refine bnE h ?_
    clear h
    intro L13 e_L13 h
    refine wx_put (Z := (S, L12)) (pc := 38) (ci := 13) (f := 1) e_L13 (dK D_AL_fastRemove 28 rfl) q_755 (ltK rfl) (ltK rfl) rfl okInt ?_
    refine x_null (pc := 41) (dK D_AL_fastRemove 29 rfl) ?_
    refine gdE h ?_
    clear h
    intro hk15 h
    refine bnE h ?_
    clear h
    intro L14 e_L14 h
    refine wx_aast (Z := (S, L13)) (pc := 42) e_L14 hk15 (Vn_in e_v5) (dK D_AL_fastRemove 30 rfl) ?_
    obtain rfl := Option.some.inj h
    exact wk_ret (pc := 43) (dK D_AL_fastRemove 31 rfl) rfl (bdk hb) (bdn hb) ⟨rfl, rfl⟩
theorem tg_AL_fastRemove {sc : SC} {c0 : Nat} {c1 : Nat} {a2 : Int} (ha2 : inR a2) {S : St} {L : List PC} {q : (LZ) × Nat × Nat} (h : gn_AL_fastRemove c0 c1 a2 S L = some q) : EvX sc M_AL_fastRemove [.ref c0, .ref c1, V a2] (wz (S, L)) q.2.1 q.2.2 (KXU q.1) := EvX.of pn2_AL rfl (leK rfl) (te_AL_fastRemove ha2 h ⟨Nat.le_of_eq (Nat.zero_add _), Nat.le_of_eq (Nat.zero_add _)⟩)
def gn_AL_remove (c0 : Nat) (a1 : Int) (S : St) (L : List PC) : Option ((Value × LZ) × Nat × Nat) := bnO (gfI L c0 13 1) fun v1 => bnO (gn_Objs_checkIndex a1 v1 S L) fun p2 => bnO (gfV L c0 13 0) fun v3 => rfB v3 fun r4 => bnO (alq L r4 a1) fun v5 => if isK L c0 13 = true then (bnO (gn_AL_fastRemove c0 r4 a1 S L) fun p6 => adC p6.2.1 p6.2.2 (some ((v5, (p6.1.1, p6.1.2)), 0, 0))) else none
theorem te_AL_remove {sc : SC} {c0 : Nat} {a1 : Int} (ha1 : inR a1) {S : St} {L : List PC} {q : (Value × LZ) × Nat × Nat} (h : gn_AL_remove c0 a1 S L = some q) {mc ms k n : Nat} (hb : Bd k n mc ms q) : GX sc M_AL_remove mc ms 0 [(0, .ref c0), (1, V a1)] [] (wz (S, L)) k n (KXR q.1.1 q.1.2) := by
  unfold gn_AL_remove at h
  refine x_iloadn (pc := 0) (i0 := 1) (j := 1) (dK D_AL_remove 0 rfl) rfl rfl ?_
  refine x_aloadn (pc := 1) (i0 := 0) (j := 0) (dK D_AL_remove 1 rfl) rfl rfl ?_
  refine bnE h ?_
  clear h
  intro v1 e_v1 h
  refine wx_getI (pc := 2) (ci := 13) (f := 1) e_v1 (dK D_AL_remove 2 rfl) q_755 (ltK rfl) (ltK rfl) ?_
  refine bnE h ?_
  clear h
  intro p2 e_p2 h
  refine x_callS (pc := 5) (As := [V a1, V v1]) (rest := []) (mc' := 0) (ms' := 0) (dK D_AL_remove 3 rfl) Q_AL_118 (fitK rfl) rfl (leK rfl) (bdk hb) (bdn hb) (tg_Objs_checkIndex ha1 (vI_at e_v1).2 e_p2) (kxI' (fun h_p2 => ?_))
  refine x_pop (pc := 8) (dK D_AL_remove 4 rfl) rfl ?_
  refine x_aloadn (pc := 9) (i0 := 0) (j := 0) (dK D_AL_remove 5 rfl) rfl rfl ?_
  refine bnE h ?_
  clear h
  intro v3 e_v3 h
  refine wx_getV (pc := 10) (ci := 13) (f := 0) e_v3 (dK D_AL_remove 6 rfl) q_752 (ltK rfl) (ltK rfl) (fun hv3 => ?_)
  refine x_astorenV (pc := 13) (i0 := 2) (ls2 := [(2, v3), (0, .ref c0), (1, V a1)]) hv3 (dK D_AL_remove 7 rfl) rfl (ltK rfl) rfl ?_
  refine x_aloadnV (pc := 14) (i0 := 2) (j := 0) hv3 (dK D_AL_remove 8 rfl) rfl rfl ?_
  refine x_iloadn (pc := 15) (i0 := 1) (j := 2) (dK D_AL_remove 9 rfl) rfl rfl ?_
  refine rfE h ?_
  clear h
  intro r4 e_r4 h
  rw [e_r4]
  refine bnE h ?_
  clear h
  intro v5 e_v5 h
  refine wx_aald (pc := 16) e_v5 ha1 (dK D_AL_remove 10 rfl) (fun hv5 => ?_)
  refine x_astorenV (pc := 17) (i0 := 3) (ls2 := [(3, v5), (2, .ref r4), (0, .ref c0), (1, V a1)]) hv5 (dK D_AL_remove 11 rfl) rfl (ltK rfl) rfl ?_
  refine x_aloadn (pc := 18) (i0 := 0) (j := 2) (dK D_AL_remove 12 rfl) rfl rfl ?_
  refine x_aloadn (pc := 19) (i0 := 2) (j := 1) (dK D_AL_remove 13 rfl) rfl rfl ?_
  refine x_iloadn (pc := 20) (i0 := 1) (j := 3) (dK D_AL_remove 14 rfl) rfl rfl ?_
  refine gdE h ?_
  clear h
  intro hk7 h
  refine bnE h ?_
  clear h
  intro p6 e_p6 h
  obtain ⟨yp6, h9, e9⟩ := adE2 h
  clear h
  subst e9
  have h := h9
  clear h9
  have hk1 := bd1 hb
  have hn1 := bd2 hb
  replace hb := bdA hb
  refine x_callX (pc := 21) (As := [.ref r4, V a1]) (rest := []) (mc' := p6.2.1) (ms' := p6.2.2) (dK D_AL_remove 15 rfl) Q_AL_144 sx_AL_fastRemove (fitK rfl) (isK_at (Z := (S, L)) (ci := 13) hk7) rfl (leK rfl) hk1 hn1 (tg_AL_fastRemove ha1 e_p6) (kxU ?_)
  refine x_aloadnV (pc := 24) (i0 := 3) (j := 0) hv5 (dK D_AL_remove 16 rfl) rfl rfl ?_
  obtain rfl := Option.some.inj h
  exact wk_aret (pc := 25) hv5 (dK D_AL_remove 17 rfl) rfl (by first | exact .inl ⟨_, rfl⟩ | exact .inr ⟨_, rfl⟩) (bdk hb) (bdn hb) ⟨rfl, hv5, rfl⟩
theorem tg_AL_remove {sc : SC} {c0 : Nat} {a1 : Int} (ha1 : inR a1) {S : St} {L : List PC} {q : (Value × LZ) × Nat × Nat} (h : gn_AL_remove c0 a1 S L = some q) : EvX sc M_AL_remove [.ref c0, V a1] (wz (S, L)) q.2.1 q.2.2 (KXR q.1.1 q.1.2) := EvX.of pn2_AL rfl (leK rfl) (te_AL_remove ha1 h ⟨Nat.le_of_eq (Nat.zero_add _), Nat.le_of_eq (Nat.zero_add _)⟩)
