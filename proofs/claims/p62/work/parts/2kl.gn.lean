def jf2_Law_others_563 (c1 : Nat) (a3 : Int) (a4 : Int) (S : St) (L : List PC) : Option ((Int × LZ) × Nat × Nat) := bnO (gfV L c1 12 4) fun v1 => rfB v1 fun r2 => if isK L r2 13 = true then (bnO (gn_AL_size r2 S L) fun p3 => if p3 = 40 then (bnO (fn_FP_addAd 0 1 0 1 0 S) fun p34 => if p34.1 = 0 then (adC 1 6 (if p34.2.1 = (-2) then (some ((0, (p34.2.2, L)), 0, 0)) else (some (((-1), (p34.2.2, L)), 0, 0)))) else none) else (if L.length < 900000000 then adC 1 7 (nw L (11, dfl 11) fun r6 L7 => bnO (gn_LI_init r6 S L7) fun p9 => bnO (pf L7 r6 11 0 (V (i_shl 1 (a3.tmod 3)))) fun L10 => nm (wr (a4.tmod 10)) fun v11 => bnO (pf L10 r6 11 1 (V v11)) fun L12 => nm (wr (a4.tdiv 10)) fun v13 => nm (wr (1 + (v13.tmod 999))) fun v14 => bnO (pf L12 r6 11 3 (V v14)) fun L15 => nm (wr (a3.tdiv 3)) fun v16 => nm (wr (v16.tmod 30)) fun v17 => bnO (pf L15 r6 11 4 (V v17)) fun L18 => bnO (gfV L18 c1 12 4) fun v19 => rfB v19 fun r20 => if isK L18 r20 13 = true then (bnO (gn_AL_add r20 (.ref r6) S L18) fun p21 => adC p21.2.1 p21.2.2 (bnO (gfI p21.1.2.2 r6 11 0) fun v23 => bnO (gfI p21.1.2.2 r6 11 1) fun v24 => bnO (gfI p21.1.2.2 r6 11 3) fun v25 => bnO (gfI p21.1.2.2 r6 11 4) fun v26 => bnO (fn_FP_addAd 0 v23 v24 v25 v26 p21.1.2.1) fun p27 => if p27.1 = 0 then (adC 1 6 (bnO (gfV p21.1.2.2 c1 12 4) fun v28 => rfB v28 fun r29 => if isK p21.1.2.2 r29 13 = true then (bnO (gn_AL_size r29 p27.2.2 p21.1.2.2) fun p30 => nm (wr (p30 - 1)) fun v32 => if p27.2.1 = v32 then (some ((1, (p27.2.2, p21.1.2.2)), 0, 0)) else (some (((-1), (p27.2.2, p21.1.2.2)), 0, 0))) else none)) else none)) else none) else none)) else none
theorem tj2_Law_others_563 {sc : SC} {c1 : Nat} {a3 : Int} (ha3 : inR a3) {a4 : Int} (ha4 : inR a4) {S : St} {L : List PC} {q : (Int × LZ) × Nat × Nat} (h : jf2_Law_others_563 c1 a3 a4 S L = some q) {mc ms k n : Nat} (hb : Bd k n mc ms q) : GX sc M_Law_others mc ms 563 [(0, .ref 0), (1, .ref c1), (3, V a3), (4, V a4)] [] (wz (S, L)) k n (KXI q.1.1 q.1.2) := by
  unfold jf2_Law_others_563 at h
  refine x_aloadn (pc := 563) (i0 := 1) (j := 1) (dK D_Law_others_5 26 rfl) rfl rfl ?_
  refine bnE h ?_
  clear h
  intro v1 e_v1 h
  refine wx_getV (pc := 564) (ci := 12) (f := 4) e_v1 (dK D_Law_others_5 27 rfl) q_776 (ltK rfl) (ltK rfl) (fun hv1 => ?_)
  refine rfE h ?_
  clear h
  intro r2 e_r2 h
  rw [e_r2]
  refine gdE h ?_
  clear h
  intro hk4 h
  refine bnE h ?_
  clear h
  intro p3 e_p3 h
  refine x_callX (pc := 567) (As := []) (rest := []) (mc' := 0) (ms' := 0) (dK D_Law_others_5 28 rfl) Q_Law_55 sx_AL_size (fitK rfl) (isK_at (Z := (S, L)) (ci := 13) hk4) rfl (leK rfl) (bdk hb) (bdn hb) (tg_AL_size  e_p3) (kxI' (fun h_p3 => ?_))
  refine wx_bipush (pc := 570) (dK D_Law_others_5 29 rfl) rfl ?_
  refine wx_icmp_ne (pc := 572) (t := 594) (dK D_Law_others_5 30 rfl) rfl h_p3 (inRk rfl) (fun hc36 => ?_) (fun hc36 => ?_)
  · replace h := ifN h hc36
    refine gdE h ?_
    clear h
    intro hl5 h
    obtain ⟨y8, h9, e9⟩ := adE2 h
    clear h
    subst e9
    have h := h9
    clear h9
    refine nwE h ?_
    clear h
    intro r6 L7 e_r6 e_L7 h
    have hk1 := bd1 hb
    have hn1 := bd2 hb
    replace hb := bdA hb
    refine wn_new (Z := (S, L)) (pc := 594) (ci := 11) (N := 7) e_r6 e_L7 hl5 rfl (dK D_Law_others_5 43 rfl) (ltK rfl) q_1033 q_867 q_38 hk1 hn1 ?_
    refine x_dup (pc := 597) (dK D_Law_others_5 44 rfl) rfl ?_
    refine bnE h ?_
    clear h
    intro p9 e_p9 h
    refine x_callIN (pc := 598) (As := []) (rest := [.ref r6]) (mc' := 0) (ms' := 0) (dK D_Law_others_5 45 rfl) Q_Law_376 (fitK rfl) rfl (leK rfl) (bdk hb) (bdn hb) (tg_LI_init  e_p9) (kxU ?_)
    refine x_astore (pc := 601) (ls2 := [(8, .ref r6), (0, .ref 0), (1, .ref c1), (3, V a3), (4, V a4)]) (dK D_Law_others_5 46 rfl) (ltK rfl) rfl ?_
    refine x_aload (pc := 603) (j := 0) (dK D_Law_others_5 47 rfl) rfl ?_
    refine wx_iconst (pc := 605) (dK D_Law_others_5 48 rfl) ?_
    refine x_iloadn (pc := 606) (i0 := 3) (j := 3) (dK D_Law_others_5 49 rfl) rfl rfl ?_
    refine wx_iconst (pc := 607) (dK D_Law_others_6 0 rfl) ?_
    refine wx_irem (pc := 608) (dK D_Law_others_6 1 rfl) ha3 (inRk rfl) (by decide) ?_
    refine wx_ishl (pc := 609) (dK D_Law_others_6 2 rfl) ?_
    refine bnE h ?_
    clear h
    intro L10 e_L10 h
    refine wx_put (Z := (S, L7)) (pc := 610) (ci := 11) (f := 0) e_L10 (dK D_Law_others_6 3 rfl) q_874 (ltK rfl) (ltK rfl) rfl okInt ?_
    refine x_aload (pc := 613) (j := 0) (dK D_Law_others_6 4 rfl) rfl ?_
    refine x_iload (pc := 615) (j := 4) (dK D_Law_others_6 5 rfl) rfl ?_
    refine wx_bipush (pc := 617) (dK D_Law_others_6 6 rfl) rfl ?_
    refine wx_irem (pc := 619) (dK D_Law_others_6 7 rfl) ha4 (inRk rfl) (by decide) ?_
    refine nmE h ?_
    clear h
    intro v11 e_v11 h
    refine wtop e_v11 ?_
    refine bnE h ?_
    clear h
    intro L12 e_L12 h
    refine wx_put (Z := (S, L10)) (pc := 620) (ci := 11) (f := 1) e_L12 (dK D_Law_others_6 8 rfl) q_876 (ltK rfl) (ltK rfl) rfl okInt ?_
    refine x_aload (pc := 623) (j := 0) (dK D_Law_others_6 9 rfl) rfl ?_
    refine wx_iconst (pc := 625) (dK D_Law_others_6 10 rfl) ?_
    refine x_iload (pc := 626) (j := 4) (dK D_Law_others_6 11 rfl) rfl ?_
    refine wx_bipush (pc := 628) (dK D_Law_others_6 12 rfl) rfl ?_
    refine wx_idiv (pc := 630) (dK D_Law_others_6 13 rfl) ha4 (inRk rfl) (by decide) ?_
    refine wx_sipush (pc := 631) (dK D_Law_others_6 14 rfl) rfl ?_
    refine nmE h ?_
    clear h
    intro v13 e_v13 h
    refine wsk (st' := [V 999, V v13, V 1, .ref r6]) (congrArg (fun z9 => [V 999, z9, V 1, .ref r6]) (Vn e_v13)) ?_
    refine wx_irem (pc := 634) (dK D_Law_others_6 15 rfl) (Vn_in e_v13) (inRk rfl) (by decide) ?_
    refine wx_iadd (pc := 635) (dK D_Law_others_6 16 rfl) ?_
    refine nmE h ?_
    clear h
    intro v14 e_v14 h
    refine wtop e_v14 ?_
    refine bnE h ?_
    clear h
    intro L15 e_L15 h
    refine wx_put (Z := (S, L12)) (pc := 636) (ci := 11) (f := 3) e_L15 (dK D_Law_others_6 17 rfl) q_882 (ltK rfl) (ltK rfl) rfl okInt ?_
    refine x_aload (pc := 639) (j := 0) (dK D_Law_others_6 18 rfl) rfl ?_
    refine x_iloadn (pc := 641) (i0 := 3) (j := 3) (dK D_Law_others_6 19 rfl) rfl rfl ?_
    refine wx_iconst (pc := 642) (dK D_Law_others_6 20 rfl) ?_
    refine wx_idiv (pc := 643) (dK D_Law_others_6 21 rfl) ha3 (inRk rfl) (by decide) ?_
    refine wx_bipush (pc := 644) (dK D_Law_others_6 22 rfl) rfl ?_
    refine nmE h ?_
    clear h
    intro v16 e_v16 h
    refine wsk (st' := [V 30, V v16, .ref r6]) (congrArg (fun z9 => [V 30, z9, .ref r6]) (Vn e_v16)) ?_
    refine wx_irem (pc := 646) (dK D_Law_others_6 23 rfl) (Vn_in e_v16) (inRk rfl) (by decide) ?_
    refine nmE h ?_
    clear h
    intro v17 e_v17 h
    refine wtop e_v17 ?_
    refine bnE h ?_
    clear h
    intro L18 e_L18 h
    refine wx_put (Z := (S, L15)) (pc := 647) (ci := 11) (f := 4) e_L18 (dK D_Law_others_6 24 rfl) q_885 (ltK rfl) (ltK rfl) rfl okInt ?_
    refine x_aloadn (pc := 650) (i0 := 1) (j := 2) (dK D_Law_others_6 25 rfl) rfl rfl ?_
    refine bnE h ?_
    clear h
    intro v19 e_v19 h
    refine wx_getV (pc := 651) (ci := 12) (f := 4) e_v19 (dK D_Law_others_6 26 rfl) q_776 (ltK rfl) (ltK rfl) (fun hv19 => ?_)
    refine x_aload (pc := 654) (j := 0) (dK D_Law_others_6 27 rfl) rfl ?_
    refine rfE h ?_
    clear h
    intro r20 e_r20 h
    rw [e_r20]
    refine gdE h ?_
    clear h
    intro hk22 h
    refine bnE h ?_
    clear h
    intro p21 e_p21 h
    obtain ⟨yp21, h9, e9⟩ := adE2 h
    clear h
    subst e9
    have h := h9
    clear h9
    have hk1 := bd1 hb
    have hn1 := bd2 hb
    replace hb := bdA hb
    refine x_callX (pc := 656) (As := [.ref r6]) (rest := []) (mc' := p21.2.1) (ms' := p21.2.2) (dK D_Law_others_6 28 rfl) Q_Law_378 sx_AL_add (fitK rfl) (isK_at (Z := (S, L18)) (ci := 13) hk22) rfl (leK rfl) hk1 hn1 (tg_AL_add (.inr ⟨_, rfl⟩) e_p21) (kxB' ?_)
    refine x_pop (pc := 659) (dK D_Law_others_6 29 rfl) rfl ?_
    refine x_aloadn (pc := 660) (i0 := 0) (j := 1) (dK D_Law_others_6 30 rfl) rfl rfl ?_
    refine x_aload (pc := 661) (j := 0) (dK D_Law_others_6 31 rfl) rfl ?_
    refine bnE h ?_
    clear h
    intro v23 e_v23 h
    refine wx_getI (pc := 663) (ci := 11) (f := 0) e_v23 (dK D_Law_others_6 32 rfl) q_874 (ltK rfl) (ltK rfl) ?_
    refine x_aload (pc := 666) (j := 0) (dK D_Law_others_6 33 rfl) rfl ?_
    refine bnE h ?_
    clear h
    intro v24 e_v24 h
    refine wx_getI (pc := 668) (ci := 11) (f := 1) e_v24 (dK D_Law_others_6 34 rfl) q_876 (ltK rfl) (ltK rfl) ?_
    refine x_aload (pc := 671) (j := 0) (dK D_Law_others_6 35 rfl) rfl ?_
    refine bnE h ?_
    clear h
    intro v25 e_v25 h
    refine wx_getI (pc := 673) (ci := 11) (f := 3) e_v25 (dK D_Law_others_6 36 rfl) q_882 (ltK rfl) (ltK rfl) ?_
    refine x_aload (pc := 676) (j := 0) (dK D_Law_others_6 37 rfl) rfl ?_
    refine bnE h ?_
    clear h
    intro v26 e_v26 h
    refine wx_getI (pc := 678) (ci := 11) (f := 4) e_v26 (dK D_Law_others_6 38 rfl) q_885 (ltK rfl) (ltK rfl) ?_
    refine bnE h ?_
    clear h
    intro p27 e_p27 h
    refine gdE h ?_
    clear h
    intro hz_p27 h
    obtain ⟨yp27, h9, e9⟩ := adE2 h
    clear h
    subst e9
    have h := h9
    clear h9
    have hk1 := bd1 hb
    have hn1 := bd2 hb
    replace hb := bdA hb
    refine x_callX (pc := 681) (As := [V v23, V v24, V v25, V v26]) (rest := []) (mc' := 1) (ms' := 6) (dK D_Law_others_6 39 rfl) Q_Law_446 sx_FP_addAd (fitK rfl) (isK_at (Z := (p21.1.2.1, p21.1.2.2)) (ci := 10) isK0) rfl (leK rfl) hk1 hn1 (clTI hz_p27 (fun E => tf_FP_addAd (X := xz p21.1.2.2) rfl xz_hc (vI_at e_v23).2 (vI_at e_v24).2 (vI_at e_v25).2 (vI_at e_v26).2 e_p27)) (kxI' (fun h_p27 => ?_))
    refine x_aloadn (pc := 684) (i0 := 1) (j := 2) (dK D_Law_others_6 40 rfl) rfl rfl ?_
    refine bnE h ?_
    clear h
    intro v28 e_v28 h
    refine wx_getV (pc := 685) (ci := 12) (f := 4) e_v28 (dK D_Law_others_6 41 rfl) q_776 (ltK rfl) (ltK rfl) (fun hv28 => ?_)
    refine rfE h ?_
    clear h
    intro r29 e_r29 h
    rw [e_r29]
    refine gdE h ?_
    clear h
    intro hk31 h
    refine bnE h ?_
    clear h
    intro p30 e_p30 h
    refine x_callX (pc := 688) (As := []) (rest := [V p27.2.1]) (mc' := 0) (ms' := 0) (dK D_Law_others_6 42 rfl) Q_Law_55 sx_AL_size (fitK rfl) (isK_at (Z := (p27.2.2, p21.1.2.2)) (ci := 13) hk31) rfl (leK rfl) (bdk hb) (bdn hb) (tg_AL_size  e_p30) (kxI' (fun h_p30 => ?_))
    refine wx_iconst (pc := 691) (dK D_Law_others_6 43 rfl) ?_
    refine wx_isub (pc := 692) (dK D_Law_others_6 44 rfl) ?_
    refine nmE h ?_
    clear h
    intro v32 e_v32 h
    refine wtop e_v32 ?_
    refine wx_icmp_eq (pc := 693) (t := 700) (dK D_Law_others_6 45 rfl) rfl h_p27 (Vn_in e_v32) (fun hc33 => ?_) (fun hc33 => ?_)
    · replace h := ifP h hc33
      refine wx_iconst (pc := 700) (dK D_Law_others_6 48 rfl) ?_
      obtain rfl := Option.some.inj h
      exact wk_iretI (pc := 701) (dK D_Law_others_6 49 rfl) rfl (bdk hb) (bdn hb) ⟨rfl, (inRk rfl), rfl⟩
    · replace h := ifN h hc33
      refine wx_iconst (pc := 696) (dK D_Law_others_6 46 rfl) ?_
      refine x_goto (pc := 697) (tgt := 701) (dK D_Law_others_6 47 rfl) rfl ?_
      obtain rfl := Option.some.inj h
      exact wk_iretI (pc := 701) (dK D_Law_others_6 49 rfl) rfl (bdk hb) (bdn hb) ⟨rfl, (inRk rfl), rfl⟩
  · replace h := ifP h hc36
    refine x_aloadn (pc := 575) (i0 := 0) (j := 0) (dK D_Law_others_5 31 rfl) rfl rfl ?_
    refine wx_iconst (pc := 576) (dK D_Law_others_5 32 rfl) ?_
    refine wx_iconst (pc := 577) (dK D_Law_others_5 33 rfl) ?_
    refine wx_iconst (pc := 578) (dK D_Law_others_5 34 rfl) ?_
    refine wx_iconst (pc := 579) (dK D_Law_others_5 35 rfl) ?_
    refine bnE h ?_
    clear h
    intro p34 e_p34 h
    refine gdE h ?_
    clear h
    intro hz_p34 h
    obtain ⟨yp34, h9, e9⟩ := adE2 h
    clear h
    subst e9
    have h := h9
    clear h9
    have hk1 := bd1 hb
    have hn1 := bd2 hb
    replace hb := bdA hb
    refine x_callX (pc := 580) (As := [V 1, V 0, V 1, V 0]) (rest := []) (mc' := 1) (ms' := 6) (dK D_Law_others_5 36 rfl) Q_Law_446 sx_FP_addAd (fitK rfl) (isK_at (Z := (S, L)) (ci := 10) isK0) rfl (leK rfl) hk1 hn1 (clTI hz_p34 (fun E => tf_FP_addAd (X := xz L) rfl xz_hc (inRk rfl) (inRk rfl) (inRk rfl) (inRk rfl) e_p34)) (kxI' (fun h_p34 => ?_))
    refine wx_bipush (pc := 583) (dK D_Law_others_5 37 rfl) rfl ?_
    refine wx_icmp_ne (pc := 585) (t := 592) (dK D_Law_others_5 38 rfl) rfl h_p34 (inRk rfl) (fun hc35 => ?_) (fun hc35 => ?_)
    · replace h := ifN h hc35
      refine wx_iconst (pc := 592) (dK D_Law_others_5 41 rfl) ?_
      obtain rfl := Option.some.inj h
      exact wk_iretI (pc := 593) (dK D_Law_others_5 42 rfl) rfl (bdk hb) (bdn hb) ⟨rfl, (inRk rfl), rfl⟩
    · replace h := ifP h hc35
      refine wx_iconst (pc := 588) (dK D_Law_others_5 39 rfl) ?_
      refine x_goto (pc := 589) (tgt := 593) (dK D_Law_others_5 40 rfl) rfl ?_
      obtain rfl := Option.some.inj h
      exact wk_iretI (pc := 593) (dK D_Law_others_5 42 rfl) rfl (bdk hb) (bdn hb) ⟨rfl, (inRk rfl), rfl⟩
def jf2_Law_others_756 (a4 : Int) (a7 : Int) (a8 : Int) (S : St) (L : List PC) : Option ((Int × LZ) × Nat × Nat) := nm (wr (a4.tmod 2)) fun v48 => if v48 = 0 then (nm (wr (a4.tdiv 2)) fun v54 => nm (wr (v54.tmod 3)) fun v55 => bnO (fn_FP_setAd 0 a7 1 v55 S) fun p56 => if p56.1 = 0 then (adC 2 12 (if (bi p56.2.1) = a8 then (if a8 = 0 then (some ((0, (p56.2.2, L)), 0, 0)) else (some ((1, (p56.2.2, L)), 0, 0))) else (some (((-1), (p56.2.2, L)), 0, 0)))) else none) else (nm (wr (a4.tdiv 2)) fun v49 => nm (wr (v49.tmod 3)) fun v50 => bnO (fn_FP_setAd 0 a7 0 v50 S) fun p51 => if p51.1 = 0 then (adC 2 12 (if (bi p51.2.1) = a8 then (if a8 = 0 then (some ((0, (p51.2.2, L)), 0, 0)) else (some ((1, (p51.2.2, L)), 0, 0))) else (some (((-1), (p51.2.2, L)), 0, 0)))) else none)
theorem tj2_Law_others_756 {sc : SC} {a4 : Int} (ha4 : inR a4) {a7 : Int} (ha7 : inR a7) {a8 : Int} (ha8 : inR a8) {S : St} {L : List PC} {q : (Int × LZ) × Nat × Nat} (h : jf2_Law_others_756 a4 a7 a8 S L = some q) {mc ms k n : Nat} (hb : Bd k n mc ms q) : GX sc M_Law_others mc ms 756 [(0, .ref 0), (4, V a4), (7, V a7), (8, V a8)] [] (wz (S, L)) k n (KXI q.1.1 q.1.2) := by
  unfold jf2_Law_others_756 at h
  refine x_aloadn (pc := 756) (i0 := 0) (j := 0) (dK D_Law_others_7 28 rfl) rfl rfl ?_
  refine x_iload (pc := 757) (j := 2) (dK D_Law_others_7 29 rfl) rfl ?_
  refine x_iload (pc := 759) (j := 1) (dK D_Law_others_7 30 rfl) rfl ?_
  refine wx_iconst (pc := 761) (dK D_Law_others_7 31 rfl) ?_
  refine wx_irem (pc := 762) (dK D_Law_others_7 32 rfl) ha4 (inRk rfl) (by decide) ?_
  refine nmE h ?_
  clear h
  intro v48 e_v48 h
  refine wtop e_v48 ?_
  refine wx_if_ne (pc := 763) (t := 770) (dK D_Law_others_7 33 rfl) rfl (Vn_in e_v48) (fun hc59 => ?_) (fun hc59 => ?_)
  · replace h := ifN h hc59
    refine wx_iconst (pc := 770) (dK D_Law_others_7 36 rfl) ?_
    refine x_iload (pc := 771) (j := 1) (dK D_Law_others_7 37 rfl) rfl ?_
    refine wx_iconst (pc := 773) (dK D_Law_others_7 38 rfl) ?_
    refine wx_idiv (pc := 774) (dK D_Law_others_7 39 rfl) ha4 (inRk rfl) (by decide) ?_
    refine wx_iconst (pc := 775) (dK D_Law_others_7 40 rfl) ?_
    refine nmE h ?_
    clear h
    intro v49 e_v49 h
    refine wsk (st' := [V 3, V v49, V 0, V a7, .ref 0]) (congrArg (fun z9 => [V 3, z9, V 0, V a7, .ref 0]) (Vn e_v49)) ?_
    refine wx_irem (pc := 776) (dK D_Law_others_7 41 rfl) (Vn_in e_v49) (inRk rfl) (by decide) ?_
    refine nmE h ?_
    clear h
    intro v50 e_v50 h
    refine wtop e_v50 ?_
    refine bnE h ?_
    clear h
    intro p51 e_p51 h
    refine gdE h ?_
    clear h
    intro hz_p51 h
    obtain ⟨yp51, h9, e9⟩ := adE2 h
    clear h
    subst e9
    have h := h9
    clear h9
    have hk1 := bd1 hb
    have hn1 := bd2 hb
    replace hb := bdA hb
    refine x_callX (pc := 777) (As := [V a7, V 0, V v50]) (rest := []) (mc' := 2) (ms' := 12) (dK D_Law_others_7 42 rfl) Q_Law_450 sx_FP_setAd (fitK rfl) (isK_at (Z := (S, L)) (ci := 10) isK0) rfl (leK rfl) hk1 hn1 (clTB hz_p51 (fun E => tf_FP_setAd (X := xz L) rfl xz_hc ha7 (inRk rfl) (Vn_in e_v50) e_p51)) (kxB' ?_)
    refine x_iload (pc := 780) (j := 3) (dK D_Law_others_7 43 rfl) rfl ?_
    refine wx_icmp_eq (pc := 782) (t := 789) (dK D_Law_others_7 44 rfl) rfl (bi_in _) ha8 (fun hc53 => ?_) (fun hc53 => ?_)
    · replace h := ifP h hc53
      refine x_iload (pc := 789) (j := 3) (dK D_Law_others_7 47 rfl) rfl ?_
      refine wx_if_eq (pc := 791) (t := 798) (dK D_Law_others_7 48 rfl) rfl ha8 (fun hc52 => ?_) (fun hc52 => ?_)
      · replace h := ifP h hc52
        refine wx_iconst (pc := 798) (dK D_Law_others_8 1 rfl) ?_
        obtain rfl := Option.some.inj h
        exact wk_iretI (pc := 799) (dK D_Law_others_8 2 rfl) rfl (bdk hb) (bdn hb) ⟨rfl, (inRk rfl), rfl⟩
      · replace h := ifN h hc52
        refine wx_iconst (pc := 794) (dK D_Law_others_7 49 rfl) ?_
        refine x_goto (pc := 795) (tgt := 799) (dK D_Law_others_8 0 rfl) rfl ?_
        obtain rfl := Option.some.inj h
        exact wk_iretI (pc := 799) (dK D_Law_others_8 2 rfl) rfl (bdk hb) (bdn hb) ⟨rfl, (inRk rfl), rfl⟩
    · replace h := ifN h hc53
      refine wx_iconst (pc := 785) (dK D_Law_others_7 45 rfl) ?_
      refine x_goto (pc := 786) (tgt := 799) (dK D_Law_others_7 46 rfl) rfl ?_
      obtain rfl := Option.some.inj h
      exact wk_iretI (pc := 799) (dK D_Law_others_8 2 rfl) rfl (bdk hb) (bdn hb) ⟨rfl, (inRk rfl), rfl⟩
  · replace h := ifP h hc59
    refine wx_iconst (pc := 766) (dK D_Law_others_7 34 rfl) ?_
    refine x_goto (pc := 767) (tgt := 771) (dK D_Law_others_7 35 rfl) rfl ?_
    refine x_iload (pc := 771) (j := 1) (dK D_Law_others_7 37 rfl) rfl ?_
    refine wx_iconst (pc := 773) (dK D_Law_others_7 38 rfl) ?_
    refine wx_idiv (pc := 774) (dK D_Law_others_7 39 rfl) ha4 (inRk rfl) (by decide) ?_
    refine wx_iconst (pc := 775) (dK D_Law_others_7 40 rfl) ?_
    refine nmE h ?_
    clear h
    intro v54 e_v54 h
    refine wsk (st' := [V 3, V v54, V 1, V a7, .ref 0]) (congrArg (fun z9 => [V 3, z9, V 1, V a7, .ref 0]) (Vn e_v54)) ?_
    refine wx_irem (pc := 776) (dK D_Law_others_7 41 rfl) (Vn_in e_v54) (inRk rfl) (by decide) ?_
    refine nmE h ?_
    clear h
    intro v55 e_v55 h
    refine wtop e_v55 ?_
    refine bnE h ?_
    clear h
    intro p56 e_p56 h
    refine gdE h ?_
    clear h
    intro hz_p56 h
    obtain ⟨yp56, h9, e9⟩ := adE2 h
    clear h
    subst e9
    have h := h9
    clear h9
    have hk1 := bd1 hb
    have hn1 := bd2 hb
    replace hb := bdA hb
    refine x_callX (pc := 777) (As := [V a7, V 1, V v55]) (rest := []) (mc' := 2) (ms' := 12) (dK D_Law_others_7 42 rfl) Q_Law_450 sx_FP_setAd (fitK rfl) (isK_at (Z := (S, L)) (ci := 10) isK0) rfl (leK rfl) hk1 hn1 (clTB hz_p56 (fun E => tf_FP_setAd (X := xz L) rfl xz_hc ha7 (inRk rfl) (Vn_in e_v55) e_p56)) (kxB' ?_)
    refine x_iload (pc := 780) (j := 3) (dK D_Law_others_7 43 rfl) rfl ?_
    refine wx_icmp_eq (pc := 782) (t := 789) (dK D_Law_others_7 44 rfl) rfl (bi_in _) ha8 (fun hc58 => ?_) (fun hc58 => ?_)
    · replace h := ifP h hc58
      refine x_iload (pc := 789) (j := 3) (dK D_Law_others_7 47 rfl) rfl ?_
      refine wx_if_eq (pc := 791) (t := 798) (dK D_Law_others_7 48 rfl) rfl ha8 (fun hc57 => ?_) (fun hc57 => ?_)
      · replace h := ifP h hc57
        refine wx_iconst (pc := 798) (dK D_Law_others_8 1 rfl) ?_
        obtain rfl := Option.some.inj h
        exact wk_iretI (pc := 799) (dK D_Law_others_8 2 rfl) rfl (bdk hb) (bdn hb) ⟨rfl, (inRk rfl), rfl⟩
      · replace h := ifN h hc57
        refine wx_iconst (pc := 794) (dK D_Law_others_7 49 rfl) ?_
        refine x_goto (pc := 795) (tgt := 799) (dK D_Law_others_8 0 rfl) rfl ?_
        obtain rfl := Option.some.inj h
        exact wk_iretI (pc := 799) (dK D_Law_others_8 2 rfl) rfl (bdk hb) (bdn hb) ⟨rfl, (inRk rfl), rfl⟩
    · replace h := ifN h hc58
      refine wx_iconst (pc := 785) (dK D_Law_others_7 45 rfl) ?_
      refine x_goto (pc := 786) (tgt := 799) (dK D_Law_others_7 46 rfl) rfl ?_
      obtain rfl := Option.some.inj h
      exact wk_iretI (pc := 799) (dK D_Law_others_8 2 rfl) rfl (bdk hb) (bdn hb) ⟨rfl, (inRk rfl), rfl⟩
def lb2_Law_others_465 (c1 : Nat) (a8 : Int) (a9 : Int) (c10 : Nat) (c11 : Nat) (go : Int × LZ → Option ((LZ) × Nat × Nat)) (a12 : Int) (S : St) (L : List PC) : Option ((LZ) × Nat × Nat) := if isK L c1 12 = true then (bnO (gn_LP_pages c1 S L) fun p87 => if p87 < a12 then (some ((S, L), 0, 0)) else (bnO (gfI L c11 11 5) fun v89 => if v89 = 0 then (if isK L c1 12 = true then (bnO (gn_LP_storyReason c1 c11 a12 S L) fun p90 => adC p90.2.1 p90.2.2 (if p90.1.1 = 0 then (bnO (pf p90.1.2.2 c11 11 5 (V a12)) fun L94 => nm (wr (a12 + 1)) fun v95 => go (v95, (p90.1.2.1, L94))) else (bnO (pf p90.1.2.2 c11 11 5 (V 0)) fun L92 => nm (wr (a12 + 1)) fun v93 => go (v93, (p90.1.2.1, L92))))) else none) else (some ((S, L), 0, 0)))) else none
def lo2_Law_others_465 (c1 : Nat) (a8 : Int) (a9 : Int) (c10 : Nat) (c11 : Nat) : Nat → Int × LZ → Option ((LZ) × Nat × Nat) := lp fun go p => lb2_Law_others_465 c1 a8 a9 c10 c11 go p.1 p.2.1 p.2.2
theorem tl2_Law_others_465 {sc : SC} {c1 : Nat} {a8 : Int} (ha8 : inR a8) {a9 : Int} (ha9 : inR a9) {c10 : Nat} {c11 : Nat} {K : Option Value → List PC → Prop} {mc ms kt nt : Nat} (hkt : kt ≤ mc) (hnt : nt ≤ ms) : ∀ (N : Nat) (a : Int × LZ) (q : (LZ) × Nat × Nat), lo2_Law_others_465 c1 a8 a9 c10 c11 N a = some q → ∀ k n, Bd k n kt nt q → inR a.1 → (GX sc M_Law_others mc ms 510 [(0, .ref 0), (1, .ref c1), (8, V a8), (9, V a9), (10, .ref c10), (11, .ref c11)] [] (wz q.1) kt nt K) → GX sc M_Law_others mc ms 465 [(0, .ref 0), (1, .ref c1), (8, V a8), (9, V a9), (10, .ref c10), (11, .ref c11), (12, V a.1)] [] (wz a.2) k n K := by
  refine lp_ind2 (P := fun (a : Int × LZ) (q : (LZ) × Nat × Nat) => ∀ k n, Bd k n kt nt q → inR a.1 → (GX sc M_Law_others mc ms 510 [(0, .ref 0), (1, .ref c1), (8, V a8), (9, V a9), (10, .ref c10), (11, .ref c11)] [] (wz q.1) kt nt K) → GX sc M_Law_others mc ms 465 [(0, .ref 0), (1, .ref c1), (8, V a8), (9, V a9), (10, .ref c10), (11, .ref c11), (12, V a.1)] [] (wz a.2) k n K) (fun go ih a q h => ?_)
  obtain ⟨a12, ⟨S, L⟩⟩ := a
  intro k n hb ha12 hx
  show GX sc M_Law_others mc ms 465 [(0, .ref 0), (1, .ref c1), (8, V a8), (9, V a9), (10, .ref c10), (11, .ref c11), (12, V a12)] [] (wz (S, L)) k n K
  replace h : lb2_Law_others_465 c1 a8 a9 c10 c11 go a12 S L = some q := h
  unfold lb2_Law_others_465 at h
  refine x_iload (pc := 465) (j := 6) (dK D_Law_others_4 32 rfl) rfl ?_
  refine x_aloadn (pc := 467) (i0 := 1) (j := 1) (dK D_Law_others_4 33 rfl) rfl rfl ?_
  refine gdE h ?_
  clear h
  intro hk88 h
  refine bnE h ?_
  clear h
  intro p87 e_p87 h
  refine x_callX (pc := 468) (As := []) (rest := [V a12]) (mc' := 0) (ms' := 0) (dK D_Law_others_4 34 rfl) Q_Law_42 sx_LP_pages (fitK rfl) (isK_at (Z := (S, L)) (ci := 12) hk88) rfl (leK rfl) (Nat.le_trans (bdk hb) hkt) (Nat.le_trans (bdn hb) hnt) (tg_LP_pages  e_p87) (kxI' (fun h_p87 => ?_))
  refine wx_icmp_gt (pc := 471) (t := 510) (dK D_Law_others_4 35 rfl) rfl ha12 h_p87 (fun hc98 => ?_) (fun hc98 => ?_)
  · replace h := ifP h hc98
    obtain rfl := Option.some.inj h
    refine x_weak (ls' := [(0, .ref 0), (1, .ref c1), (8, V a8), (9, V a9), (10, .ref c10), (11, .ref c11)]) (sbc 0 rfl (sbc 1 rfl (sbc 2 rfl (sbc 3 rfl (sbc 4 rfl (sbc 5 rfl sbn)))))) ?_
    refine x_room (bdk hb) (bdn hb) ?_
    exact hx 
  · replace h := ifN h hc98
    refine x_aload (pc := 474) (j := 5) (dK D_Law_others_4 36 rfl) rfl ?_
    refine bnE h ?_
    clear h
    intro v89 e_v89 h
    refine wx_getI (pc := 476) (ci := 11) (f := 5) e_v89 (dK D_Law_others_4 37 rfl) q_889 (ltK rfl) (ltK rfl) ?_
    refine wx_if_ne (pc := 479) (t := 510) (dK D_Law_others_4 38 rfl) rfl (vI_at e_v89).2 (fun hc97 => ?_) (fun hc97 => ?_)
    · replace h := ifN h hc97
      obtain rfl := Option.some.inj h
      refine x_weak (ls' := [(0, .ref 0), (1, .ref c1), (8, V a8), (9, V a9), (10, .ref c10), (11, .ref c11)]) (sbc 0 rfl (sbc 1 rfl (sbc 2 rfl (sbc 3 rfl (sbc 4 rfl (sbc 5 rfl sbn)))))) ?_
      refine x_room (bdk hb) (bdn hb) ?_
      exact hx 
    · replace h := ifP h hc97
      refine x_aload (pc := 482) (j := 5) (dK D_Law_others_4 39 rfl) rfl ?_
      refine x_aloadn (pc := 484) (i0 := 1) (j := 1) (dK D_Law_others_4 40 rfl) rfl rfl ?_
      refine x_aload (pc := 485) (j := 5) (dK D_Law_others_4 41 rfl) rfl ?_
      refine x_iload (pc := 487) (j := 6) (dK D_Law_others_4 42 rfl) rfl ?_
      refine gdE h ?_
      clear h
      intro hk91 h
      refine bnE h ?_
      clear h
      intro p90 e_p90 h
      obtain ⟨yp90, h9, e9⟩ := adE2 h
      clear h
      subst e9
      have h := h9
      clear h9
      have hk1 := Nat.le_trans (bd1 hb) hkt
      have hn1 := Nat.le_trans (bd2 hb) hnt
      replace hb := bdA hb
      refine x_callX (pc := 489) (As := [.ref c11, V a12]) (rest := [.ref c11]) (mc' := p90.2.1) (ms' := p90.2.2) (dK D_Law_others_4 43 rfl) Q_Law_273 sx_LP_storyReason (fitK rfl) (isK_at (Z := (S, L)) (ci := 12) hk91) rfl (leK rfl) hk1 hn1 (tg_LP_storyReason ha12 e_p90) (kxI' (fun h_p90 => ?_))
      refine wx_if_ne (pc := 492) (t := 500) (dK D_Law_others_4 44 rfl) rfl h_p90 (fun hc96 => ?_) (fun hc96 => ?_)
      · replace h := ifN h hc96
        refine wx_iconst (pc := 500) (dK D_Law_others_4 47 rfl) ?_
        refine bnE h ?_
        clear h
        intro L92 e_L92 h
        refine wx_put (Z := (p90.1.2.1, p90.1.2.2)) (pc := 501) (ci := 11) (f := 5) e_L92 (dK D_Law_others_4 48 rfl) q_889 (ltK rfl) (ltK rfl) rfl okInt ?_
        refine nmE h ?_
        clear h
        intro v93 e_v93 h
        refine wx_iinc (pc := 504) (j := 6) (a := a12) (z := 1) (ls2 := [(12, V v93), (0, .ref 0), (1, .ref c1), (8, V a8), (9, V a9), (10, .ref c10), (11, .ref c11)]) (dK D_Law_others_4 49 rfl) rfl e_v93 (ltK rfl) rfl ?_
        refine x_goto (pc := 507) (tgt := 465) (dK D_Law_others_5 0 rfl) rfl ?_
        refine x_weak (ls' := [(0, .ref 0), (1, .ref c1), (8, V a8), (9, V a9), (10, .ref c10), (11, .ref c11), (12, V v93)]) (sbc 1 rfl (sbc 2 rfl (sbc 3 rfl (sbc 4 rfl (sbc 5 rfl (sbc 6 rfl (sbc 0 rfl sbn))))))) ?_
        replace h := ih _ _ h
        exact h _ _ hb (Vn_in e_v93) hx
      · replace h := ifP h hc96
        refine x_iload (pc := 495) (j := 6) (dK D_Law_others_4 45 rfl) rfl ?_
        refine x_goto (pc := 497) (tgt := 501) (dK D_Law_others_4 46 rfl) rfl ?_
        refine bnE h ?_
        clear h
        intro L94 e_L94 h
        refine wx_put (Z := (p90.1.2.1, p90.1.2.2)) (pc := 501) (ci := 11) (f := 5) e_L94 (dK D_Law_others_4 48 rfl) q_889 (ltK rfl) (ltK rfl) rfl okInt ?_
        refine nmE h ?_
        clear h
        intro v95 e_v95 h
        refine wx_iinc (pc := 504) (j := 6) (a := a12) (z := 1) (ls2 := [(12, V v95), (0, .ref 0), (1, .ref c1), (8, V a8), (9, V a9), (10, .ref c10), (11, .ref c11)]) (dK D_Law_others_4 49 rfl) rfl e_v95 (ltK rfl) rfl ?_
        refine x_goto (pc := 507) (tgt := 465) (dK D_Law_others_5 0 rfl) rfl ?_
        refine x_weak (ls' := [(0, .ref 0), (1, .ref c1), (8, V a8), (9, V a9), (10, .ref c10), (11, .ref c11), (12, V v95)]) (sbc 1 rfl (sbc 2 rfl (sbc 3 rfl (sbc 4 rfl (sbc 5 rfl (sbc 6 rfl (sbc 0 rfl sbn))))))) ?_
        replace h := ih _ _ h
        exact h _ _ hb (Vn_in e_v95) hx
def lb2_Law_others_419 (c1 : Nat) (a9 : Int) (c10 : Nat) (go : Int × LZ → Option ((Int × LZ) × Nat × Nat)) (a8 : Int) (S : St) (L : List PC) : Option ((Int × LZ) × Nat × Nat) := if isK L c10 14 = true then (bnO (gn_Itr_hasNext c10 S L) fun p78 => if p78 = true then (if isK L c10 14 = true then (bnO (gn_Itr_next c10 S L) fun p81 => adC p81.2.1 p81.2.2 (rfB p81.1.1 fun r83 => if isK p81.1.2.2 r83 11 = true then (bnO (gfI p81.1.2.2 r83 11 0) fun v85 => if v85 = a9 then (bnO (gfI p81.1.2.2 r83 11 5) fun v86 => if v86 ≤ 0 then (bnO (lo2_Law_others_465 c1 a8 a9 c10 r83 FU (1, (p81.1.2.1, p81.1.2.2))) fun p99 => adC p99.2.1 p99.2.2 (bnO (gfI p99.1.2 r83 11 5) fun v100 => if v100 ≤ 0 then (nm (wr (a8 + 0)) fun v101 => go (v101, (p99.1.1, p99.1.2))) else (nm (wr (a8 + 1)) fun v102 => go (v102, (p99.1.1, p99.1.2))))) else (go (a8, (p81.1.2.1, p81.1.2.2)))) else (go (a8, (p81.1.2.1, p81.1.2.2)))) else none)) else none) else (some ((a8, (S, L)), 0, 0))) else none
def lo2_Law_others_419 (c1 : Nat) (a9 : Int) (c10 : Nat) : Nat → Int × LZ → Option ((Int × LZ) × Nat × Nat) := lp fun go p => lb2_Law_others_419 c1 a9 c10 go p.1 p.2.1 p.2.2
theorem tl2_Law_others_419 {sc : SC} {c1 : Nat} {a9 : Int} (ha9 : inR a9) {c10 : Nat} {K : Option Value → List PC → Prop} {mc ms kt nt : Nat} (hkt : kt ≤ mc) (hnt : nt ≤ ms) : ∀ (N : Nat) (a : Int × LZ) (q : (Int × LZ) × Nat × Nat), lo2_Law_others_419 c1 a9 c10 N a = some q → ∀ k n, Bd k n kt nt q → inR a.1 → (inR q.1.1 → GX sc M_Law_others mc ms 531 [(0, .ref 0), (1, .ref c1), (8, V q.1.1), (9, V a9)] [] (wz q.1.2) kt nt K) → GX sc M_Law_others mc ms 419 [(0, .ref 0), (1, .ref c1), (8, V a.1), (9, V a9), (10, .ref c10)] [] (wz a.2) k n K := by
  refine lp_ind2 (P := fun (a : Int × LZ) (q : (Int × LZ) × Nat × Nat) => ∀ k n, Bd k n kt nt q → inR a.1 → (inR q.1.1 → GX sc M_Law_others mc ms 531 [(0, .ref 0), (1, .ref c1), (8, V q.1.1), (9, V a9)] [] (wz q.1.2) kt nt K) → GX sc M_Law_others mc ms 419 [(0, .ref 0), (1, .ref c1), (8, V a.1), (9, V a9), (10, .ref c10)] [] (wz a.2) k n K) (fun go ih a q h => ?_)
  obtain ⟨a8, ⟨S, L⟩⟩ := a
  intro k n hb ha8 hx
  show GX sc M_Law_others mc ms 419 [(0, .ref 0), (1, .ref c1), (8, V a8), (9, V a9), (10, .ref c10)] [] (wz (S, L)) k n K
  replace h : lb2_Law_others_419 c1 a9 c10 go a8 S L = some q := h
  unfold lb2_Law_others_419 at h
  refine x_aload (pc := 419) (j := 4) (dK D_Law_others_4 15 rfl) rfl ?_
  refine gdE h ?_
  clear h
  intro hk79 h
  refine bnE h ?_
  clear h
  intro p78 e_p78 h
  refine x_callF (pc := 421) (As := []) (rest := []) (mc' := 0) (ms' := 0) (dK D_Law_others_4 16 rfl) LE_Itr_hasNext (List.mem_of_getElem? (i := 0) rfl) q_1469 q_843 q_845 rfl q_820 (fitK rfl) (isK_at (Z := (S, L)) (ci := 14) hk79) rfl (leK rfl) (Nat.le_trans (bdk hb) hkt) (Nat.le_trans (bdn hb) hnt) (tg_Itr_hasNext  e_p78) (kxB' ?_)
  refine wx_ifB_eq (pc := 426) (b := p78) (t := 531) (dK D_Law_others_4 17 rfl) rfl (fun hc80 => ?_) (fun hc80 => ?_)
  · replace h := ifP h hc80
    refine x_aload (pc := 429) (j := 4) (dK D_Law_others_4 18 rfl) rfl ?_
    refine gdE h ?_
    clear h
    intro hk82 h
    refine bnE h ?_
    clear h
    intro p81 e_p81 h
    obtain ⟨yp81, h9, e9⟩ := adE2 h
    clear h
    subst e9
    have h := h9
    clear h9
    have hk1 := Nat.le_trans (bd1 hb) hkt
    have hn1 := Nat.le_trans (bd2 hb) hnt
    replace hb := bdA hb
    refine x_callF (pc := 431) (As := []) (rest := []) (mc' := p81.2.1) (ms' := p81.2.2) (dK D_Law_others_4 19 rfl) LE_Itr_next (List.mem_of_getElem? (i := 1) rfl) q_1471 q_852 q_854 rfl q_820 (fitK rfl) (isK_at (Z := (S, L)) (ci := 14) hk82) rfl (leK rfl) hk1 hn1 (tg_Itr_next  e_p81) (kxR (fun h_p81 => ?_))
    refine rfE h ?_
    clear h
    intro r83 e_r83 h
    rw [e_r83]
    refine gdE h ?_
    clear h
    intro hk84 h
    refine x_cast (pc := 436) (dK D_Law_others_4 20 rfl) q_1033 (isK_at (Z := (p81.1.2.1, p81.1.2.2)) (ci := 11) hk84) ?_
    refine x_astore (pc := 439) (ls2 := [(11, .ref r83), (0, .ref 0), (1, .ref c1), (8, V a8), (9, V a9), (10, .ref c10)]) (dK D_Law_others_4 21 rfl) (ltK rfl) rfl ?_
    refine x_aload (pc := 441) (j := 0) (dK D_Law_others_4 22 rfl) rfl ?_
    refine bnE h ?_
    clear h
    intro v85 e_v85 h
    refine wx_getI (pc := 443) (ci := 11) (f := 0) e_v85 (dK D_Law_others_4 23 rfl) q_874 (ltK rfl) (ltK rfl) ?_
    refine x_iload (pc := 446) (j := 4) (dK D_Law_others_4 24 rfl) rfl ?_
    refine wx_icmp_ne (pc := 448) (t := 419) (dK D_Law_others_4 25 rfl) rfl (vI_at e_v85).2 ha9 (fun hc105 => ?_) (fun hc105 => ?_)
    · replace h := ifN h hc105
      refine x_weak (ls' := [(0, .ref 0), (1, .ref c1), (8, V a8), (9, V a9), (10, .ref c10)]) (sbc 1 rfl (sbc 2 rfl (sbc 3 rfl (sbc 4 rfl (sbc 5 rfl sbn))))) ?_
      replace h := ih _ _ h
      exact h _ _ hb ha8 hx
    · replace h := ifP h hc105
      refine x_aload (pc := 451) (j := 0) (dK D_Law_others_4 26 rfl) rfl ?_
      refine bnE h ?_
      clear h
      intro v86 e_v86 h
      refine wx_getI (pc := 453) (ci := 11) (f := 5) e_v86 (dK D_Law_others_4 27 rfl) q_889 (ltK rfl) (ltK rfl) ?_
      refine wx_if_le (pc := 456) (t := 462) (dK D_Law_others_4 28 rfl) rfl (vI_at e_v86).2 (fun hc104 => ?_) (fun hc104 => ?_)
      · replace h := ifP h hc104
        refine wx_iconst (pc := 462) (dK D_Law_others_4 30 rfl) ?_
        refine x_istore (pc := 463) (ls2 := [(12, V 1), (11, .ref r83), (0, .ref 0), (1, .ref c1), (8, V a8), (9, V a9), (10, .ref c10)]) (dK D_Law_others_4 31 rfl) (ltK rfl) rfl ?_
        refine bnE h ?_
        clear h
        intro p99 e_p99 h
        obtain ⟨yp99, h9, e9⟩ := adE2 h
        clear h
        subst e9
        have h := h9
        clear h9
        have hk1 := Nat.le_trans (bd1 hb) hkt
        have hn1 := Nat.le_trans (bd2 hb) hnt
        replace hb := bdA hb
        refine x_weak (ls' := [(0, .ref 0), (1, .ref c1), (8, V a8), (9, V a9), (10, .ref c10), (11, .ref r83), (12, V 1)]) (sbc 2 rfl (sbc 3 rfl (sbc 4 rfl (sbc 5 rfl (sbc 6 rfl (sbc 1 rfl (sbc 0 rfl sbn))))))) ?_
        refine tl2_Law_others_465 ha8 ha9 hk1 hn1 FU _ _ e_p99 _ _ ⟨Nat.le_refl _, Nat.le_refl _⟩ (inRk rfl) ?_
        refine x_iload (pc := 510) (j := 2) (dK D_Law_others_5 1 rfl) rfl ?_
        refine x_aload (pc := 512) (j := 5) (dK D_Law_others_5 2 rfl) rfl ?_
        refine bnE h ?_
        clear h
        intro v100 e_v100 h
        refine wx_getI (pc := 514) (ci := 11) (f := 5) e_v100 (dK D_Law_others_5 3 rfl) q_889 (ltK rfl) (ltK rfl) ?_
        refine wx_if_le (pc := 517) (t := 524) (dK D_Law_others_5 4 rfl) rfl (vI_at e_v100).2 (fun hc103 => ?_) (fun hc103 => ?_)
        · replace h := ifP h hc103
          refine wx_iconst (pc := 524) (dK D_Law_others_5 7 rfl) ?_
          refine wx_iadd (pc := 525) (dK D_Law_others_5 8 rfl) ?_
          refine nmE h ?_
          clear h
          intro v101 e_v101 h
          refine wtop e_v101 ?_
          refine x_istore (pc := 526) (ls2 := [(8, V v101), (0, .ref 0), (1, .ref c1), (9, V a9), (10, .ref c10), (11, .ref r83)]) (dK D_Law_others_5 9 rfl) (ltK rfl) rfl ?_
          refine x_goto (pc := 528) (tgt := 419) (dK D_Law_others_5 10 rfl) rfl ?_
          refine x_weak (ls' := [(0, .ref 0), (1, .ref c1), (8, V v101), (9, V a9), (10, .ref c10)]) (sbc 1 rfl (sbc 2 rfl (sbc 0 rfl (sbc 3 rfl (sbc 4 rfl sbn))))) ?_
          replace h := ih _ _ h
          exact h _ _ hb (Vn_in e_v101) hx
        · replace h := ifN h hc103
          refine wx_iconst (pc := 520) (dK D_Law_others_5 5 rfl) ?_
          refine x_goto (pc := 521) (tgt := 525) (dK D_Law_others_5 6 rfl) rfl ?_
          refine wx_iadd (pc := 525) (dK D_Law_others_5 8 rfl) ?_
          refine nmE h ?_
          clear h
          intro v102 e_v102 h
          refine wtop e_v102 ?_
          refine x_istore (pc := 526) (ls2 := [(8, V v102), (0, .ref 0), (1, .ref c1), (9, V a9), (10, .ref c10), (11, .ref r83)]) (dK D_Law_others_5 9 rfl) (ltK rfl) rfl ?_
          refine x_goto (pc := 528) (tgt := 419) (dK D_Law_others_5 10 rfl) rfl ?_
          refine x_weak (ls' := [(0, .ref 0), (1, .ref c1), (8, V v102), (9, V a9), (10, .ref c10)]) (sbc 1 rfl (sbc 2 rfl (sbc 0 rfl (sbc 3 rfl (sbc 4 rfl sbn))))) ?_
          replace h := ih _ _ h
          exact h _ _ hb (Vn_in e_v102) hx
      · replace h := ifN h hc104
        refine x_goto (pc := 459) (tgt := 419) (dK D_Law_others_4 29 rfl) rfl ?_
        refine x_weak (ls' := [(0, .ref 0), (1, .ref c1), (8, V a8), (9, V a9), (10, .ref c10)]) (sbc 1 rfl (sbc 2 rfl (sbc 3 rfl (sbc 4 rfl (sbc 5 rfl sbn))))) ?_
        replace h := ih _ _ h
        exact h _ _ hb ha8 hx
  · replace h := ifN h hc80
    obtain rfl := Option.some.inj h
    refine x_weak (ls' := [(0, .ref 0), (1, .ref c1), (8, V a8), (9, V a9)]) (sbc 0 rfl (sbc 1 rfl (sbc 2 rfl (sbc 3 rfl sbn)))) ?_
    refine x_room (bdk hb) (bdn hb) ?_
    exact hx ha8
def lb2_Law_others_405 (c1 : Nat) (go : Int × Int × LZ → Option ((Int × LZ) × Nat × Nat)) (a8 : Int) (a9 : Int) (S : St) (L : List PC) : Option ((Int × LZ) × Nat × Nat) := if a9 ≤ 0 then (some ((a8, (S, L)), 0, 0)) else (bnO (gfV L c1 12 5) fun v73 => rfB v73 fun r74 => if isK L r74 13 = true then (bnO (gn_AL_iterator r74 S L) fun p75 => adC p75.2.1 p75.2.2 (rfB p75.1.1 fun r77 => bnO (lo2_Law_others_419 c1 a9 r77 FU (a8, (p75.1.2.1, p75.1.2.2))) fun p106 => adC p106.2.1 p106.2.2 (nm (wr (a9 + (-1))) fun v107 => go (p106.1.1, v107, (p106.1.2.1, p106.1.2.2))))) else none)
def lo2_Law_others_405 (c1 : Nat) : Nat → Int × Int × LZ → Option ((Int × LZ) × Nat × Nat) := lp fun go p => lb2_Law_others_405 c1 go p.1 p.2.1 p.2.2.1 p.2.2.2
theorem tl2_Law_others_405 {sc : SC} {c1 : Nat} {K : Option Value → List PC → Prop} {mc ms kt nt : Nat} (hkt : kt ≤ mc) (hnt : nt ≤ ms) : ∀ (N : Nat) (a : Int × Int × LZ) (q : (Int × LZ) × Nat × Nat), lo2_Law_others_405 c1 N a = some q → ∀ k n, Bd k n kt nt q → inR a.1 → inR a.2.1 → (inR q.1.1 → GX sc M_Law_others mc ms 537 [(0, .ref 0), (8, V q.1.1)] [] (wz q.1.2) kt nt K) → GX sc M_Law_others mc ms 405 [(0, .ref 0), (1, .ref c1), (8, V a.1), (9, V a.2.1)] [] (wz a.2.2) k n K := by
  refine lp_ind2 (P := fun (a : Int × Int × LZ) (q : (Int × LZ) × Nat × Nat) => ∀ k n, Bd k n kt nt q → inR a.1 → inR a.2.1 → (inR q.1.1 → GX sc M_Law_others mc ms 537 [(0, .ref 0), (8, V q.1.1)] [] (wz q.1.2) kt nt K) → GX sc M_Law_others mc ms 405 [(0, .ref 0), (1, .ref c1), (8, V a.1), (9, V a.2.1)] [] (wz a.2.2) k n K) (fun go ih a q h => ?_)
  obtain ⟨a8, a9, ⟨S, L⟩⟩ := a
  intro k n hb ha8 ha9 hx
  show GX sc M_Law_others mc ms 405 [(0, .ref 0), (1, .ref c1), (8, V a8), (9, V a9)] [] (wz (S, L)) k n K
  replace h : lb2_Law_others_405 c1 go a8 a9 S L = some q := h
  unfold lb2_Law_others_405 at h
  refine x_iload (pc := 405) (j := 3) (dK D_Law_others_4 9 rfl) rfl ?_
  refine wx_if_le (pc := 407) (t := 537) (dK D_Law_others_4 10 rfl) rfl ha9 (fun hc108 => ?_) (fun hc108 => ?_)
  · replace h := ifP h hc108
    obtain rfl := Option.some.inj h
    refine x_weak (ls' := [(0, .ref 0), (8, V a8)]) (sbc 0 rfl (sbc 2 rfl sbn)) ?_
    refine x_room (bdk hb) (bdn hb) ?_
    exact hx ha8
  · replace h := ifN h hc108
    refine x_aloadn (pc := 410) (i0 := 1) (j := 1) (dK D_Law_others_4 11 rfl) rfl rfl ?_
    refine bnE h ?_
    clear h
    intro v73 e_v73 h
    refine wx_getV (pc := 411) (ci := 12) (f := 5) e_v73 (dK D_Law_others_4 12 rfl) q_778 (ltK rfl) (ltK rfl) (fun hv73 => ?_)
    refine rfE h ?_
    clear h
    intro r74 e_r74 h
    rw [e_r74]
    refine gdE h ?_
    clear h
    intro hk76 h
    refine bnE h ?_
    clear h
    intro p75 e_p75 h
    obtain ⟨yp75, h9, e9⟩ := adE2 h
    clear h
    subst e9
    have h := h9
    clear h9
    have hk1 := Nat.le_trans (bd1 hb) hkt
    have hn1 := Nat.le_trans (bd2 hb) hnt
    replace hb := bdA hb
    refine x_callX (pc := 414) (As := []) (rest := []) (mc' := p75.2.1) (ms' := p75.2.2) (dK D_Law_others_4 13 rfl) Q_Law_179 sx_AL_iterator (fitK rfl) (isK_at (Z := (S, L)) (ci := 13) hk76) rfl (leK rfl) hk1 hn1 (tg_AL_iterator  e_p75) (kxR (fun h_p75 => ?_))
    refine x_astoreV (pc := 417) (ls2 := [(10, p75.1.1), (0, .ref 0), (1, .ref c1), (8, V a8), (9, V a9)]) h_p75 (dK D_Law_others_4 14 rfl) (ltK rfl) rfl ?_
    refine rfE h ?_
    clear h
    intro r77 e_r77 h
    rw [e_r77]
    refine bnE h ?_
    clear h
    intro p106 e_p106 h
    obtain ⟨yp106, h9, e9⟩ := adE2 h
    clear h
    subst e9
    have h := h9
    clear h9
    have hk1 := Nat.le_trans (bd1 hb) hkt
    have hn1 := Nat.le_trans (bd2 hb) hnt
    replace hb := bdA hb
    refine x_weak (ls' := [(0, .ref 0), (1, .ref c1), (8, V a8), (9, V a9), (10, .ref r77)]) (sbc 1 rfl (sbc 2 rfl (sbc 3 rfl (sbc 4 rfl (sbc 0 rfl sbn))))) ?_
    refine tl2_Law_others_419 ha9 hk1 hn1 FU _ _ e_p106 _ _ ⟨Nat.le_refl _, Nat.le_refl _⟩ ha8 (fun hx8_p106 => ?_)
    refine nmE h ?_
    clear h
    intro v107 e_v107 h
    refine wx_iinc (pc := 531) (j := 3) (a := a9) (z := -1) (ls2 := [(9, V v107), (0, .ref 0), (1, .ref c1), (8, V p106.1.1)]) (dK D_Law_others_5 11 rfl) rfl e_v107 (ltK rfl) rfl ?_
    refine x_goto (pc := 534) (tgt := 405) (dK D_Law_others_5 12 rfl) rfl ?_
    refine x_weak (ls' := [(0, .ref 0), (1, .ref c1), (8, V p106.1.1), (9, V v107)]) (sbc 1 rfl (sbc 2 rfl (sbc 3 rfl (sbc 0 rfl sbn)))) ?_
    replace h := ih _ _ h
    exact h _ _ hb hx8_p106 (Vn_in e_v107) hx
def lb2_Law_others_279 (c1 : Nat) (a5 : Int) (a8 : Int) (S : St) (L : List PC) (go : Int × Int → Option (Int)) (a9 : Int) (a10 : Int) : Option (Int) := if isK L c1 12 = true then (bnO (gn_LP_pages c1 S L) fun p120 => if p120 < a10 then (some a9) else (if isK L c1 12 = true then (bnO (gn_LP_form c1 a10 S L) fun p122 => if p122 = a5 then (if isK L c1 12 = true then (bnO (gn_LP_left c1 a10 S L) fun p126 => nm (wr (a9 + p126)) fun v128 => nm (wr (a10 + 1)) fun v129 => go (v128, v129)) else none) else (nm (wr (a9 + 0)) fun v124 => nm (wr (a10 + 1)) fun v125 => go (v124, v125))) else none)) else none
def lo2_Law_others_279 (c1 : Nat) (a5 : Int) (a8 : Int) (S : St) (L : List PC) : Nat → Int × Int → Option (Int) := lp fun go p => lb2_Law_others_279 c1 a5 a8 S L go p.1 p.2
theorem tl2_Law_others_279 {sc : SC} {c1 : Nat} {a5 : Int} (ha5 : inR a5) {a8 : Int} (ha8 : inR a8) {K : Option Value → List PC → Prop} {S : St} {L : List PC} {mc ms k n : Nat} (hk0 : k ≤ mc) (hn0 : n ≤ ms) : ∀ (N : Nat) (a : Int × Int) (q : Int), lo2_Law_others_279 c1 a5 a8 S L N a = some q → inR a.1 → inR a.2 → (inR q → GX sc M_Law_others mc ms 320 [(0, .ref 0), (1, .ref c1), (5, V a5), (8, V a8), (9, V q)] [] (wz (S, L)) k n K) → GX sc M_Law_others mc ms 279 [(0, .ref 0), (1, .ref c1), (5, V a5), (8, V a8), (9, V a.1), (10, V a.2)] [] (wz (S, L)) k n K := by
  refine lp_ind2 (P := fun (a : Int × Int) (q : Int) => inR a.1 → inR a.2 → (inR q → GX sc M_Law_others mc ms 320 [(0, .ref 0), (1, .ref c1), (5, V a5), (8, V a8), (9, V q)] [] (wz (S, L)) k n K) → GX sc M_Law_others mc ms 279 [(0, .ref 0), (1, .ref c1), (5, V a5), (8, V a8), (9, V a.1), (10, V a.2)] [] (wz (S, L)) k n K) (fun go ih a q h => ?_)
  obtain ⟨a9, a10⟩ := a
  intro ha9 ha10 hx
  show GX sc M_Law_others mc ms 279 [(0, .ref 0), (1, .ref c1), (5, V a5), (8, V a8), (9, V a9), (10, V a10)] [] (wz (S, L)) k n K
  replace h : lb2_Law_others_279 c1 a5 a8 S L go a9 a10 = some q := h
  unfold lb2_Law_others_279 at h
  refine x_iload (pc := 279) (j := 5) (dK D_Law_others_2 47 rfl) rfl ?_
  refine x_aloadn (pc := 281) (i0 := 1) (j := 1) (dK D_Law_others_2 48 rfl) rfl rfl ?_
  refine gdE h ?_
  clear h
  intro hk121 h
  refine bnE h ?_
  clear h
  intro p120 e_p120 h
  refine x_callX (pc := 282) (As := []) (rest := [V a10]) (mc' := 0) (ms' := 0) (dK D_Law_others_2 49 rfl) Q_Law_42 sx_LP_pages (fitK rfl) (isK_at (Z := (S, L)) (ci := 12) hk121) rfl (leK rfl) hk0 hn0 (tg_LP_pages  e_p120) (kxI' (fun h_p120 => ?_))
  refine wx_icmp_gt (pc := 285) (t := 320) (dK D_Law_others_3 0 rfl) rfl ha10 h_p120 (fun hc131 => ?_) (fun hc131 => ?_)
  · replace h := ifP h hc131
    obtain rfl := Option.some.inj h
    refine x_weak (ls' := [(0, .ref 0), (1, .ref c1), (5, V a5), (8, V a8), (9, V a9)]) (sbc 0 rfl (sbc 1 rfl (sbc 2 rfl (sbc 3 rfl (sbc 4 rfl sbn))))) ?_
    exact hx ha9
  · replace h := ifN h hc131
    refine x_iload (pc := 288) (j := 4) (dK D_Law_others_3 1 rfl) rfl ?_
    refine x_aloadn (pc := 290) (i0 := 1) (j := 1) (dK D_Law_others_3 2 rfl) rfl rfl ?_
    refine x_iload (pc := 291) (j := 5) (dK D_Law_others_3 3 rfl) rfl ?_
    refine gdE h ?_
    clear h
    intro hk123 h
    refine bnE h ?_
    clear h
    intro p122 e_p122 h
    refine x_callX (pc := 293) (As := [V a10]) (rest := [V a9]) (mc' := 0) (ms' := 0) (dK D_Law_others_3 4 rfl) Q_Law_148 sx_LP_form (fitK rfl) (isK_at (Z := (S, L)) (ci := 12) hk123) rfl (leK rfl) hk0 hn0 (tg_LP_form ha10 e_p122) (kxI' (fun h_p122 => ?_))
    refine x_iload (pc := 296) (j := 2) (dK D_Law_others_3 5 rfl) rfl ?_
    refine wx_icmp_ne (pc := 298) (t := 310) (dK D_Law_others_3 6 rfl) rfl h_p122 ha5 (fun hc130 => ?_) (fun hc130 => ?_)
    · replace h := ifN h hc130
      refine wx_iconst (pc := 310) (dK D_Law_others_3 11 rfl) ?_
      refine wx_iadd (pc := 311) (dK D_Law_others_3 12 rfl) ?_
      refine nmE h ?_
      clear h
      intro v124 e_v124 h
      refine wtop e_v124 ?_
      refine x_istore (pc := 312) (ls2 := [(9, V v124), (0, .ref 0), (1, .ref c1), (5, V a5), (8, V a8), (10, V a10)]) (dK D_Law_others_3 13 rfl) (ltK rfl) rfl ?_
      refine nmE h ?_
      clear h
      intro v125 e_v125 h
      refine wx_iinc (pc := 314) (j := 5) (a := a10) (z := 1) (ls2 := [(10, V v125), (9, V v124), (0, .ref 0), (1, .ref c1), (5, V a5), (8, V a8)]) (dK D_Law_others_3 14 rfl) rfl e_v125 (ltK rfl) rfl ?_
      refine x_goto (pc := 317) (tgt := 279) (dK D_Law_others_3 15 rfl) rfl ?_
      refine x_weak (ls' := [(0, .ref 0), (1, .ref c1), (5, V a5), (8, V a8), (9, V v124), (10, V v125)]) (sbc 2 rfl (sbc 3 rfl (sbc 4 rfl (sbc 5 rfl (sbc 1 rfl (sbc 0 rfl sbn)))))) ?_
      replace h := ih _ _ h
      exact h (Vn_in e_v124) (Vn_in e_v125) hx
    · replace h := ifP h hc130
      refine x_aloadn (pc := 301) (i0 := 1) (j := 1) (dK D_Law_others_3 7 rfl) rfl rfl ?_
      refine x_iload (pc := 302) (j := 5) (dK D_Law_others_3 8 rfl) rfl ?_
      refine gdE h ?_
      clear h
      intro hk127 h
      refine bnE h ?_
      clear h
      intro p126 e_p126 h
      refine x_callX (pc := 304) (As := [V a10]) (rest := [V a9]) (mc' := 0) (ms' := 0) (dK D_Law_others_3 9 rfl) Q_Law_142 sx_LP_left (fitK rfl) (isK_at (Z := (S, L)) (ci := 12) hk127) rfl (leK rfl) hk0 hn0 (tg_LP_left ha10 e_p126) (kxI' (fun h_p126 => ?_))
      refine x_goto (pc := 307) (tgt := 311) (dK D_Law_others_3 10 rfl) rfl ?_
      refine wx_iadd (pc := 311) (dK D_Law_others_3 12 rfl) ?_
      refine nmE h ?_
      clear h
      intro v128 e_v128 h
      refine wtop e_v128 ?_
      refine x_istore (pc := 312) (ls2 := [(9, V v128), (0, .ref 0), (1, .ref c1), (5, V a5), (8, V a8), (10, V a10)]) (dK D_Law_others_3 13 rfl) (ltK rfl) rfl ?_
      refine nmE h ?_
      clear h
      intro v129 e_v129 h
      refine wx_iinc (pc := 314) (j := 5) (a := a10) (z := 1) (ls2 := [(10, V v129), (9, V v128), (0, .ref 0), (1, .ref c1), (5, V a5), (8, V a8)]) (dK D_Law_others_3 14 rfl) rfl e_v129 (ltK rfl) rfl ?_
      refine x_goto (pc := 317) (tgt := 279) (dK D_Law_others_3 15 rfl) rfl ?_
      refine x_weak (ls' := [(0, .ref 0), (1, .ref c1), (5, V a5), (8, V a8), (9, V v128), (10, V v129)]) (sbc 2 rfl (sbc 3 rfl (sbc 4 rfl (sbc 5 rfl (sbc 1 rfl (sbc 0 rfl sbn)))))) ?_
      replace h := ih _ _ h
      exact h (Vn_in e_v128) (Vn_in e_v129) hx
def jf2_Law_others_271 (c1 : Nat) (a5 : Int) (st0 : Int) (S : St) (L : List PC) : Option ((Int × LZ) × Nat × Nat) := bnO (lo2_Law_others_279 c1 a5 st0 S L FU (0, 1)) fun p132 => if st0 = 0 then (bnO (fn_FP_print 0 a5 S) fun p133 => if p133.1 = 0 then (adC 1 6 (if st0 = 0 then (if p133.2.1 = (-4) then (if st0 = 0 then (some ((0, (p133.2.2, L)), 0, 0)) else (some ((1, (p133.2.2, L)), 0, 0))) else (some (((-1), (p133.2.2, L)), 0, 0))) else (if p133.2.1 = p132 then (if st0 = 0 then (some ((0, (p133.2.2, L)), 0, 0)) else (some ((1, (p133.2.2, L)), 0, 0))) else (some (((-1), (p133.2.2, L)), 0, 0))))) else none) else (bnO (gfV L c1 12 8) fun v139 => rfB v139 fun r140 => bnO (ast L 102 r140 a5 (V (i_nz 1))) fun L141 => bnO (fn_FP_print 0 a5 S) fun p142 => if p142.1 = 0 then (adC 1 6 (if st0 = 0 then (if p142.2.1 = (-4) then (if st0 = 0 then (some ((0, (p142.2.2, L141)), 0, 0)) else (some ((1, (p142.2.2, L141)), 0, 0))) else (some (((-1), (p142.2.2, L141)), 0, 0))) else (if p142.2.1 = p132 then (if st0 = 0 then (some ((0, (p142.2.2, L141)), 0, 0)) else (some ((1, (p142.2.2, L141)), 0, 0))) else (some (((-1), (p142.2.2, L141)), 0, 0))))) else none)
theorem tj2_Law_others_271 {sc : SC} {c1 : Nat} {a5 : Int} (ha5 : inR a5) {st0 : Int} (hst0 : inR st0) {S : St} {L : List PC} {q : (Int × LZ) × Nat × Nat} (h : jf2_Law_others_271 c1 a5 st0 S L = some q) {mc ms k n : Nat} (hb : Bd k n mc ms q) : GX sc M_Law_others mc ms 271 [(0, .ref 0), (1, .ref c1), (5, V a5)] [V st0] (wz (S, L)) k n (KXI q.1.1 q.1.2) := by
  unfold jf2_Law_others_271 at h
  refine x_istore (pc := 271) (ls2 := [(8, V st0), (0, .ref 0), (1, .ref c1), (5, V a5)]) (dK D_Law_others_2 42 rfl) (ltK rfl) rfl ?_
  refine wx_iconst (pc := 273) (dK D_Law_others_2 43 rfl) ?_
  refine x_istore (pc := 274) (ls2 := [(9, V 0), (8, V st0), (0, .ref 0), (1, .ref c1), (5, V a5)]) (dK D_Law_others_2 44 rfl) (ltK rfl) rfl ?_
  refine wx_iconst (pc := 276) (dK D_Law_others_2 45 rfl) ?_
  refine x_istore (pc := 277) (ls2 := [(10, V 1), (9, V 0), (8, V st0), (0, .ref 0), (1, .ref c1), (5, V a5)]) (dK D_Law_others_2 46 rfl) (ltK rfl) rfl ?_
  refine bnE h ?_
  clear h
  intro p132 e_p132 h
  refine x_weak (ls' := [(0, .ref 0), (1, .ref c1), (5, V a5), (8, V st0), (9, V 0), (10, V 1)]) (sbc 3 rfl (sbc 4 rfl (sbc 5 rfl (sbc 2 rfl (sbc 1 rfl (sbc 0 rfl sbn)))))) ?_
  refine tl2_Law_others_279 ha5 hst0 (bdk hb) (bdn hb) FU _ _ e_p132 (inRk rfl) (inRk rfl) (fun hx9_p132 => ?_)
  refine x_iload (pc := 320) (j := 3) (dK D_Law_others_3 16 rfl) rfl ?_
  refine wx_if_eq (pc := 322) (t := 333) (dK D_Law_others_3 17 rfl) rfl hst0 (fun hc148 => ?_) (fun hc148 => ?_)
  · replace h := ifP h hc148
    refine x_aloadn (pc := 333) (i0 := 0) (j := 0) (dK D_Law_others_3 23 rfl) rfl rfl ?_
    refine x_iload (pc := 334) (j := 2) (dK D_Law_others_3 24 rfl) rfl ?_
    refine bnE h ?_
    clear h
    intro p133 e_p133 h
    refine gdE h ?_
    clear h
    intro hz_p133 h
    obtain ⟨yp133, h9, e9⟩ := adE2 h
    clear h
    subst e9
    have h := h9
    clear h9
    have hk1 := bd1 hb
    have hn1 := bd2 hb
    replace hb := bdA hb
    refine x_callX (pc := 336) (As := [V a5]) (rest := []) (mc' := 1) (ms' := 6) (dK D_Law_others_3 25 rfl) Q_Law_433 sx_FP_print (fitK rfl) (isK_at (Z := (S, L)) (ci := 10) isK0) rfl (leK rfl) hk1 hn1 (clTI hz_p133 (fun E => tf_FP_print (X := xz L) rfl xz_hc ha5 e_p133)) (kxI' (fun h_p133 => ?_))
    refine x_iload (pc := 339) (j := 3) (dK D_Law_others_3 26 rfl) rfl ?_
    refine wx_if_eq (pc := 341) (t := 349) (dK D_Law_others_3 27 rfl) rfl hst0 (fun hc138 => ?_) (fun hc138 => ?_)
    · replace h := ifP h hc138
      refine wx_bipush (pc := 349) (dK D_Law_others_3 30 rfl) rfl ?_
      refine wx_icmp_eq (pc := 351) (t := 358) (dK D_Law_others_3 31 rfl) rfl h_p133 (inRk rfl) (fun hc135 => ?_) (fun hc135 => ?_)
      · replace h := ifP h hc135
        refine x_iload (pc := 358) (j := 3) (dK D_Law_others_3 34 rfl) rfl ?_
        refine wx_if_eq (pc := 360) (t := 367) (dK D_Law_others_3 35 rfl) rfl hst0 (fun hc134 => ?_) (fun hc134 => ?_)
        · replace h := ifP h hc134
          refine wx_iconst (pc := 367) (dK D_Law_others_3 38 rfl) ?_
          obtain rfl := Option.some.inj h
          exact wk_iretI (pc := 368) (dK D_Law_others_3 39 rfl) rfl (bdk hb) (bdn hb) ⟨rfl, (inRk rfl), rfl⟩
        · replace h := ifN h hc134
          refine wx_iconst (pc := 363) (dK D_Law_others_3 36 rfl) ?_
          refine x_goto (pc := 364) (tgt := 368) (dK D_Law_others_3 37 rfl) rfl ?_
          obtain rfl := Option.some.inj h
          exact wk_iretI (pc := 368) (dK D_Law_others_3 39 rfl) rfl (bdk hb) (bdn hb) ⟨rfl, (inRk rfl), rfl⟩
      · replace h := ifN h hc135
        refine wx_iconst (pc := 354) (dK D_Law_others_3 32 rfl) ?_
        refine x_goto (pc := 355) (tgt := 368) (dK D_Law_others_3 33 rfl) rfl ?_
        obtain rfl := Option.some.inj h
        exact wk_iretI (pc := 368) (dK D_Law_others_3 39 rfl) rfl (bdk hb) (bdn hb) ⟨rfl, (inRk rfl), rfl⟩
    · replace h := ifN h hc138
      refine x_iload (pc := 344) (j := 4) (dK D_Law_others_3 28 rfl) rfl ?_
      refine x_goto (pc := 346) (tgt := 351) (dK D_Law_others_3 29 rfl) rfl ?_
      refine wx_icmp_eq (pc := 351) (t := 358) (dK D_Law_others_3 31 rfl) rfl h_p133 hx9_p132 (fun hc137 => ?_) (fun hc137 => ?_)
      · replace h := ifP h hc137
        refine x_iload (pc := 358) (j := 3) (dK D_Law_others_3 34 rfl) rfl ?_
        refine wx_if_eq (pc := 360) (t := 367) (dK D_Law_others_3 35 rfl) rfl hst0 (fun hc136 => ?_) (fun hc136 => ?_)
        · replace h := ifP h hc136
          refine wx_iconst (pc := 367) (dK D_Law_others_3 38 rfl) ?_
          obtain rfl := Option.some.inj h
          exact wk_iretI (pc := 368) (dK D_Law_others_3 39 rfl) rfl (bdk hb) (bdn hb) ⟨rfl, (inRk rfl), rfl⟩
        · replace h := ifN h hc136
          refine wx_iconst (pc := 363) (dK D_Law_others_3 36 rfl) ?_
          refine x_goto (pc := 364) (tgt := 368) (dK D_Law_others_3 37 rfl) rfl ?_
          obtain rfl := Option.some.inj h
          exact wk_iretI (pc := 368) (dK D_Law_others_3 39 rfl) rfl (bdk hb) (bdn hb) ⟨rfl, (inRk rfl), rfl⟩
      · replace h := ifN h hc137
        refine wx_iconst (pc := 354) (dK D_Law_others_3 32 rfl) ?_
        refine x_goto (pc := 355) (tgt := 368) (dK D_Law_others_3 33 rfl) rfl ?_
        obtain rfl := Option.some.inj h
        exact wk_iretI (pc := 368) (dK D_Law_others_3 39 rfl) rfl (bdk hb) (bdn hb) ⟨rfl, (inRk rfl), rfl⟩
  · replace h := ifN h hc148
    refine x_aloadn (pc := 325) (i0 := 1) (j := 1) (dK D_Law_others_3 18 rfl) rfl rfl ?_
    refine bnE h ?_
    clear h
    intro v139 e_v139 h
    refine wx_getV (pc := 326) (ci := 12) (f := 8) e_v139 (dK D_Law_others_3 19 rfl) q_784 (ltK rfl) (ltK rfl) (fun hv139 => ?_)
    refine x_iload (pc := 329) (j := 2) (dK D_Law_others_3 20 rfl) rfl ?_
    refine wx_iconst (pc := 331) (dK D_Law_others_3 21 rfl) ?_
    refine rfE h ?_
    clear h
    intro r140 e_r140 h
    rw [e_r140]
    refine bnE h ?_
    clear h
    intro L141 e_L141 h
    refine wx_zast (Z := (S, L)) (pc := 332) (z := 1) e_L141 ha5 (dK D_Law_others_3 22 rfl) ?_
    refine x_aloadn (pc := 333) (i0 := 0) (j := 0) (dK D_Law_others_3 23 rfl) rfl rfl ?_
    refine x_iload (pc := 334) (j := 2) (dK D_Law_others_3 24 rfl) rfl ?_
    refine bnE h ?_
    clear h
    intro p142 e_p142 h
    refine gdE h ?_
    clear h
    intro hz_p142 h
    obtain ⟨yp142, h9, e9⟩ := adE2 h
    clear h
    subst e9
    have h := h9
    clear h9
    have hk1 := bd1 hb
    have hn1 := bd2 hb
    replace hb := bdA hb
    refine x_callX (pc := 336) (As := [V a5]) (rest := []) (mc' := 1) (ms' := 6) (dK D_Law_others_3 25 rfl) Q_Law_433 sx_FP_print (fitK rfl) (isK_at (Z := (S, L141)) (ci := 10) isK0) rfl (leK rfl) hk1 hn1 (clTI hz_p142 (fun E => tf_FP_print (X := xz L141) rfl xz_hc ha5 e_p142)) (kxI' (fun h_p142 => ?_))
    refine x_iload (pc := 339) (j := 3) (dK D_Law_others_3 26 rfl) rfl ?_
    refine wx_if_eq (pc := 341) (t := 349) (dK D_Law_others_3 27 rfl) rfl hst0 (fun hc147 => ?_) (fun hc147 => ?_)
    · replace h := ifP h hc147
      refine wx_bipush (pc := 349) (dK D_Law_others_3 30 rfl) rfl ?_
      refine wx_icmp_eq (pc := 351) (t := 358) (dK D_Law_others_3 31 rfl) rfl h_p142 (inRk rfl) (fun hc144 => ?_) (fun hc144 => ?_)
      · replace h := ifP h hc144
        refine x_iload (pc := 358) (j := 3) (dK D_Law_others_3 34 rfl) rfl ?_
        refine wx_if_eq (pc := 360) (t := 367) (dK D_Law_others_3 35 rfl) rfl hst0 (fun hc143 => ?_) (fun hc143 => ?_)
        · replace h := ifP h hc143
          refine wx_iconst (pc := 367) (dK D_Law_others_3 38 rfl) ?_
          obtain rfl := Option.some.inj h
          exact wk_iretI (pc := 368) (dK D_Law_others_3 39 rfl) rfl (bdk hb) (bdn hb) ⟨rfl, (inRk rfl), rfl⟩
        · replace h := ifN h hc143
          refine wx_iconst (pc := 363) (dK D_Law_others_3 36 rfl) ?_
          refine x_goto (pc := 364) (tgt := 368) (dK D_Law_others_3 37 rfl) rfl ?_
          obtain rfl := Option.some.inj h
          exact wk_iretI (pc := 368) (dK D_Law_others_3 39 rfl) rfl (bdk hb) (bdn hb) ⟨rfl, (inRk rfl), rfl⟩
      · replace h := ifN h hc144
        refine wx_iconst (pc := 354) (dK D_Law_others_3 32 rfl) ?_
        refine x_goto (pc := 355) (tgt := 368) (dK D_Law_others_3 33 rfl) rfl ?_
        obtain rfl := Option.some.inj h
        exact wk_iretI (pc := 368) (dK D_Law_others_3 39 rfl) rfl (bdk hb) (bdn hb) ⟨rfl, (inRk rfl), rfl⟩
    · replace h := ifN h hc147
      refine x_iload (pc := 344) (j := 4) (dK D_Law_others_3 28 rfl) rfl ?_
      refine x_goto (pc := 346) (tgt := 351) (dK D_Law_others_3 29 rfl) rfl ?_
      refine wx_icmp_eq (pc := 351) (t := 358) (dK D_Law_others_3 31 rfl) rfl h_p142 hx9_p132 (fun hc146 => ?_) (fun hc146 => ?_)
      · replace h := ifP h hc146
        refine x_iload (pc := 358) (j := 3) (dK D_Law_others_3 34 rfl) rfl ?_
        refine wx_if_eq (pc := 360) (t := 367) (dK D_Law_others_3 35 rfl) rfl hst0 (fun hc145 => ?_) (fun hc145 => ?_)
        · replace h := ifP h hc145
          refine wx_iconst (pc := 367) (dK D_Law_others_3 38 rfl) ?_
          obtain rfl := Option.some.inj h
          exact wk_iretI (pc := 368) (dK D_Law_others_3 39 rfl) rfl (bdk hb) (bdn hb) ⟨rfl, (inRk rfl), rfl⟩
        · replace h := ifN h hc145
          refine wx_iconst (pc := 363) (dK D_Law_others_3 36 rfl) ?_
          refine x_goto (pc := 364) (tgt := 368) (dK D_Law_others_3 37 rfl) rfl ?_
          obtain rfl := Option.some.inj h
          exact wk_iretI (pc := 368) (dK D_Law_others_3 39 rfl) rfl (bdk hb) (bdn hb) ⟨rfl, (inRk rfl), rfl⟩
      · replace h := ifN h hc146
        refine wx_iconst (pc := 354) (dK D_Law_others_3 32 rfl) ?_
        refine x_goto (pc := 355) (tgt := 368) (dK D_Law_others_3 33 rfl) rfl ?_
        obtain rfl := Option.some.inj h
        exact wk_iretI (pc := 368) (dK D_Law_others_3 39 rfl) rfl (bdk hb) (bdn hb) ⟨rfl, (inRk rfl), rfl⟩
def jf2_Law_others_178 (a5 : Int) (a8 : Int) (a9 : Int) (a10 : Int) (S : St) (L : List PC) : Option ((Int × LZ) × Nat × Nat) := bnO (fn_FP_setClosing 0 a5 a8 S) fun p171 => if p171.1 = 0 then (adC 2 12 (if p171.2.1 = a9 then (if a10 = 0 then (some ((0, (p171.2.2, L)), 0, 0)) else (some ((1, (p171.2.2, L)), 0, 0))) else (some (((-1), (p171.2.2, L)), 0, 0)))) else none
theorem tj2_Law_others_178 {sc : SC} {a5 : Int} (ha5 : inR a5) {a8 : Int} (ha8 : inR a8) {a9 : Int} (ha9 : inR a9) {a10 : Int} (ha10 : inR a10) {S : St} {L : List PC} {q : (Int × LZ) × Nat × Nat} (h : jf2_Law_others_178 a5 a8 a9 a10 S L = some q) {mc ms k n : Nat} (hb : Bd k n mc ms q) : GX sc M_Law_others mc ms 178 [(0, .ref 0), (5, V a5), (8, V a8), (9, V a9), (10, V a10)] [] (wz (S, L)) k n (KXI q.1.1 q.1.2) := by
  unfold jf2_Law_others_178 at h
  refine x_aloadn (pc := 178) (i0 := 0) (j := 0) (dK D_Law_others_1 41 rfl) rfl rfl ?_
  refine x_iload (pc := 179) (j := 1) (dK D_Law_others_1 42 rfl) rfl ?_
  refine x_iload (pc := 181) (j := 2) (dK D_Law_others_1 43 rfl) rfl ?_
  refine bnE h ?_
  clear h
  intro p171 e_p171 h
  refine gdE h ?_
  clear h
  intro hz_p171 h
  obtain ⟨yp171, h9, e9⟩ := adE2 h
  clear h
  subst e9
  have h := h9
  clear h9
  have hk1 := bd1 hb
  have hn1 := bd2 hb
  replace hb := bdA hb
  refine x_callX (pc := 183) (As := [V a5, V a8]) (rest := []) (mc' := 2) (ms' := 12) (dK D_Law_others_1 44 rfl) Q_Law_429 sx_FP_setClosing (fitK rfl) (isK_at (Z := (S, L)) (ci := 10) isK0) rfl (leK rfl) hk1 hn1 (clTI hz_p171 (fun E => tf_FP_setClosing (X := xz L) rfl xz_hc ha5 ha8 e_p171)) (kxI' (fun h_p171 => ?_))
  refine x_iload (pc := 186) (j := 3) (dK D_Law_others_1 45 rfl) rfl ?_
  refine wx_icmp_eq (pc := 188) (t := 195) (dK D_Law_others_1 46 rfl) rfl h_p171 ha9 (fun hc173 => ?_) (fun hc173 => ?_)
  · replace h := ifP h hc173
    refine x_iload (pc := 195) (j := 4) (dK D_Law_others_1 49 rfl) rfl ?_
    refine wx_if_eq (pc := 197) (t := 204) (dK D_Law_others_2 0 rfl) rfl ha10 (fun hc172 => ?_) (fun hc172 => ?_)
    · replace h := ifP h hc172
      refine wx_iconst (pc := 204) (dK D_Law_others_2 3 rfl) ?_
      obtain rfl := Option.some.inj h
      exact wk_iretI (pc := 205) (dK D_Law_others_2 4 rfl) rfl (bdk hb) (bdn hb) ⟨rfl, (inRk rfl), rfl⟩
    · replace h := ifN h hc172
      refine wx_iconst (pc := 200) (dK D_Law_others_2 1 rfl) ?_
      refine x_goto (pc := 201) (tgt := 205) (dK D_Law_others_2 2 rfl) rfl ?_
      obtain rfl := Option.some.inj h
      exact wk_iretI (pc := 205) (dK D_Law_others_2 4 rfl) rfl (bdk hb) (bdn hb) ⟨rfl, (inRk rfl), rfl⟩
  · replace h := ifN h hc173
    refine wx_iconst (pc := 191) (dK D_Law_others_1 47 rfl) ?_
    refine x_goto (pc := 192) (tgt := 205) (dK D_Law_others_1 48 rfl) rfl ?_
    obtain rfl := Option.some.inj h
    exact wk_iretI (pc := 205) (dK D_Law_others_2 4 rfl) rfl (bdk hb) (bdn hb) ⟨rfl, (inRk rfl), rfl⟩
def jf2_Law_others_130 (c1 : Nat) (a5 : Int) (a8 : Int) (st0 : Int) (S : St) (L : List PC) : Option ((Int × LZ) × Nat × Nat) := bnO (gfV L c1 12 8) fun v168 => rfB v168 fun r169 => bnO (ald L 2 r169 a5) fun v170 => if v170 = 0 then (bnO (gfV L c1 12 9) fun v174 => rfB v174 fun r175 => bnO (ast L 100 r175 a5 (V a8)) fun L176 => bnO (gfI L176 c1 12 2) fun v177 => if v177 < a8 then (jf2_Law_others_178 a5 a8 st0 1 S L176) else (if isK L176 c1 12 = true then (bnO (gn_LP_close c1 a5 S L176) fun p178 => adC p178.2.1 p178.2.2 (jf2_Law_others_178 a5 a8 st0 1 p178.1.1 p178.1.2)) else none)) else (jf2_Law_others_178 a5 a8 st0 0 S L)
theorem tj2_Law_others_130 {sc : SC} {c1 : Nat} {a5 : Int} (ha5 : inR a5) {a8 : Int} (ha8 : inR a8) {st0 : Int} (hst0 : inR st0) {S : St} {L : List PC} {q : (Int × LZ) × Nat × Nat} (h : jf2_Law_others_130 c1 a5 a8 st0 S L = some q) {mc ms k n : Nat} (hb : Bd k n mc ms q) : GX sc M_Law_others mc ms 130 [(0, .ref 0), (1, .ref c1), (5, V a5), (8, V a8)] [V st0] (wz (S, L)) k n (KXI q.1.1 q.1.2) := by
  unfold jf2_Law_others_130 at h
  refine x_istore (pc := 130) (ls2 := [(9, V st0), (0, .ref 0), (1, .ref c1), (5, V a5), (8, V a8)]) (dK D_Law_others_1 17 rfl) (ltK rfl) rfl ?_
  refine x_aloadn (pc := 132) (i0 := 1) (j := 2) (dK D_Law_others_1 18 rfl) rfl rfl ?_
  refine bnE h ?_
  clear h
  intro v168 e_v168 h
  refine wx_getV (pc := 133) (ci := 12) (f := 8) e_v168 (dK D_Law_others_1 19 rfl) q_784 (ltK rfl) (ltK rfl) (fun hv168 => ?_)
  refine x_iload (pc := 136) (j := 3) (dK D_Law_others_1 20 rfl) rfl ?_
  refine rfE h ?_
  clear h
  intro r169 e_r169 h
  rw [e_r169]
  refine bnE h ?_
  clear h
  intro v170 e_v170 h
  refine wx_zald (pc := 138) e_v170 ha5 (dK D_Law_others_1 21 rfl) ?_
  refine wx_if_ne (pc := 139) (t := 146) (dK D_Law_others_1 22 rfl) rfl (vI_at e_v170).2 (fun hc181 => ?_) (fun hc181 => ?_)
  · replace h := ifN h hc181
    refine wx_iconst (pc := 146) (dK D_Law_others_1 25 rfl) ?_
    refine x_istore (pc := 147) (ls2 := [(10, V 0), (9, V st0), (0, .ref 0), (1, .ref c1), (5, V a5), (8, V a8)]) (dK D_Law_others_1 26 rfl) (ltK rfl) rfl ?_
    refine x_iload (pc := 149) (j := 0) (dK D_Law_others_1 27 rfl) rfl ?_
    refine wx_if_eq (pc := 151) (t := 178) (dK D_Law_others_1 28 rfl) rfl (inRk rfl) (fun _ => ?_) (fun hc => absurd hc (by decide))
    refine x_weak (ls' := [(0, .ref 0), (5, V a5), (8, V a8), (9, V st0), (10, V 0)]) (sbc 2 rfl (sbc 4 rfl (sbc 5 rfl (sbc 1 rfl (sbc 0 rfl sbn))))) ?_
    exact tj2_Law_others_178 ha5 ha8 hst0 (inRk rfl) h hb
  · replace h := ifP h hc181
    refine wx_iconst (pc := 142) (dK D_Law_others_1 23 rfl) ?_
    refine x_goto (pc := 143) (tgt := 147) (dK D_Law_others_1 24 rfl) rfl ?_
    refine x_istore (pc := 147) (ls2 := [(10, V 1), (9, V st0), (0, .ref 0), (1, .ref c1), (5, V a5), (8, V a8)]) (dK D_Law_others_1 26 rfl) (ltK rfl) rfl ?_
    refine x_iload (pc := 149) (j := 0) (dK D_Law_others_1 27 rfl) rfl ?_
    refine wx_if_eq (pc := 151) (t := 178) (dK D_Law_others_1 28 rfl) rfl (inRk rfl) (fun hc => absurd hc (by decide)) (fun _ => ?_)
    refine x_aloadn (pc := 154) (i0 := 1) (j := 3) (dK D_Law_others_1 29 rfl) rfl rfl ?_
    refine bnE h ?_
    clear h
    intro v174 e_v174 h
    refine wx_getV (pc := 155) (ci := 12) (f := 9) e_v174 (dK D_Law_others_1 30 rfl) q_786 (ltK rfl) (ltK rfl) (fun hv174 => ?_)
    refine x_iload (pc := 158) (j := 4) (dK D_Law_others_1 31 rfl) rfl ?_
    refine x_iload (pc := 160) (j := 5) (dK D_Law_others_1 32 rfl) rfl ?_
    refine rfE h ?_
    clear h
    intro r175 e_r175 h
    rw [e_r175]
    refine bnE h ?_
    clear h
    intro L176 e_L176 h
    refine wx_iast (Z := (S, L)) (pc := 162) (z := a8) e_L176 ha5 (dK D_Law_others_1 33 rfl) ?_
    refine x_iload (pc := 163) (j := 5) (dK D_Law_others_1 34 rfl) rfl ?_
    refine x_aloadn (pc := 165) (i0 := 1) (j := 3) (dK D_Law_others_1 35 rfl) rfl rfl ?_
    refine bnE h ?_
    clear h
    intro v177 e_v177 h
    refine wx_getI (pc := 166) (ci := 12) (f := 2) e_v177 (dK D_Law_others_1 36 rfl) q_772 (ltK rfl) (ltK rfl) ?_
    refine wx_icmp_gt (pc := 169) (t := 178) (dK D_Law_others_1 37 rfl) rfl ha8 (vI_at e_v177).2 (fun hc180 => ?_) (fun hc180 => ?_)
    · replace h := ifP h hc180
      refine x_weak (ls' := [(0, .ref 0), (5, V a5), (8, V a8), (9, V st0), (10, V 1)]) (sbc 2 rfl (sbc 4 rfl (sbc 5 rfl (sbc 1 rfl (sbc 0 rfl sbn))))) ?_
      exact tj2_Law_others_178 ha5 ha8 hst0 (inRk rfl) h hb
    · replace h := ifN h hc180
      refine x_aloadn (pc := 172) (i0 := 1) (j := 3) (dK D_Law_others_1 38 rfl) rfl rfl ?_
      refine x_iload (pc := 173) (j := 4) (dK D_Law_others_1 39 rfl) rfl ?_
      refine gdE h ?_
      clear h
      intro hk179 h
      refine bnE h ?_
      clear h
      intro p178 e_p178 h
      obtain ⟨yp178, h9, e9⟩ := adE2 h
      clear h
      subst e9
      have h := h9
      clear h9
      have hk1 := bd1 hb
      have hn1 := bd2 hb
      replace hb := bdA hb
      refine x_callX (pc := 175) (As := [V a5]) (rest := []) (mc' := p178.2.1) (ms' := p178.2.2) (dK D_Law_others_1 40 rfl) Q_Law_425 sx_LP_close (fitK rfl) (isK_at (Z := (S, L176)) (ci := 12) hk179) rfl (leK rfl) hk1 hn1 (tg_LP_close ha5 e_p178) (kxU ?_)
      refine x_weak (ls' := [(0, .ref 0), (5, V a5), (8, V a8), (9, V st0), (10, V 1)]) (sbc 2 rfl (sbc 4 rfl (sbc 5 rfl (sbc 1 rfl (sbc 0 rfl sbn))))) ?_
      exact tj2_Law_others_178 ha5 ha8 hst0 (inRk rfl) h hb
def jf2_Law_others_49 (c1 : Nat) (a5 : Int) (a8 : Int) (st0 : Int) (S : St) (L : List PC) : Option ((Int × LZ) × Nat × Nat) := if st0 = 0 then (bnO (fn_FP_setColor 0 a5 a8 S) fun p188 => if p188.1 = 0 then (adC 1 6 (if (bi p188.2.1) = st0 then (if st0 = 0 then (some ((0, (p188.2.2, L)), 0, 0)) else (some ((1, (p188.2.2, L)), 0, 0))) else (some (((-1), (p188.2.2, L)), 0, 0)))) else none) else (bnO (gfV L c1 12 7) fun v191 => rfB v191 fun r192 => bnO (ast L 102 r192 a5 (V (i_nz a8))) fun L193 => bnO (fn_FP_setColor 0 a5 a8 S) fun p194 => if p194.1 = 0 then (adC 1 6 (if (bi p194.2.1) = st0 then (if st0 = 0 then (some ((0, (p194.2.2, L193)), 0, 0)) else (some ((1, (p194.2.2, L193)), 0, 0))) else (some (((-1), (p194.2.2, L193)), 0, 0)))) else none)
theorem tj2_Law_others_49 {sc : SC} {c1 : Nat} {a5 : Int} (ha5 : inR a5) {a8 : Int} (ha8 : inR a8) {st0 : Int} (hst0 : inR st0) {S : St} {L : List PC} {q : (Int × LZ) × Nat × Nat} (h : jf2_Law_others_49 c1 a5 a8 st0 S L = some q) {mc ms k n : Nat} (hb : Bd k n mc ms q) : GX sc M_Law_others mc ms 49 [(0, .ref 0), (1, .ref c1), (5, V a5), (8, V a8)] [V st0] (wz (S, L)) k n (KXI q.1.1 q.1.2) := by
  unfold jf2_Law_others_49 at h
  refine x_istore (pc := 49) (ls2 := [(9, V st0), (0, .ref 0), (1, .ref c1), (5, V a5), (8, V a8)]) (dK D_Law_others_0 25 rfl) (ltK rfl) rfl ?_
  refine x_iload (pc := 51) (j := 0) (dK D_Law_others_0 26 rfl) rfl ?_
  refine wx_if_eq (pc := 53) (t := 65) (dK D_Law_others_0 27 rfl) rfl hst0 (fun hc197 => ?_) (fun hc197 => ?_)
  · replace h := ifP h hc197
    refine x_aloadn (pc := 65) (i0 := 0) (j := 1) (dK D_Law_others_0 33 rfl) rfl rfl ?_
    refine x_iload (pc := 66) (j := 3) (dK D_Law_others_0 34 rfl) rfl ?_
    refine x_iload (pc := 68) (j := 4) (dK D_Law_others_0 35 rfl) rfl ?_
    refine bnE h ?_
    clear h
    intro p188 e_p188 h
    refine gdE h ?_
    clear h
    intro hz_p188 h
    obtain ⟨yp188, h9, e9⟩ := adE2 h
    clear h
    subst e9
    have h := h9
    clear h9
    have hk1 := bd1 hb
    have hn1 := bd2 hb
    replace hb := bdA hb
    refine x_callX (pc := 70) (As := [V a5, V a8]) (rest := []) (mc' := 1) (ms' := 6) (dK D_Law_others_0 36 rfl) Q_Law_421 sx_FP_setColor (fitK rfl) (isK_at (Z := (S, L)) (ci := 10) isK0) rfl (leK rfl) hk1 hn1 (clTB hz_p188 (fun E => tf_FP_setColor (X := xz L) rfl xz_hc ha5 ha8 e_p188)) (kxB' ?_)
    refine x_iload (pc := 73) (j := 0) (dK D_Law_others_0 37 rfl) rfl ?_
    refine wx_icmp_eq (pc := 75) (t := 82) (dK D_Law_others_0 38 rfl) rfl (bi_in _) hst0 (fun hc190 => ?_) (fun hc190 => ?_)
    · replace h := ifP h hc190
      refine x_iload (pc := 82) (j := 0) (dK D_Law_others_0 41 rfl) rfl ?_
      refine wx_if_eq (pc := 84) (t := 91) (dK D_Law_others_0 42 rfl) rfl hst0 (fun hc189 => ?_) (fun hc189 => ?_)
      · replace h := ifP h hc189
        refine wx_iconst (pc := 91) (dK D_Law_others_0 45 rfl) ?_
        obtain rfl := Option.some.inj h
        exact wk_iretI (pc := 92) (dK D_Law_others_0 46 rfl) rfl (bdk hb) (bdn hb) ⟨rfl, (inRk rfl), rfl⟩
      · replace h := ifN h hc189
        refine wx_iconst (pc := 87) (dK D_Law_others_0 43 rfl) ?_
        refine x_goto (pc := 88) (tgt := 92) (dK D_Law_others_0 44 rfl) rfl ?_
        obtain rfl := Option.some.inj h
        exact wk_iretI (pc := 92) (dK D_Law_others_0 46 rfl) rfl (bdk hb) (bdn hb) ⟨rfl, (inRk rfl), rfl⟩
    · replace h := ifN h hc190
      refine wx_iconst (pc := 78) (dK D_Law_others_0 39 rfl) ?_
      refine x_goto (pc := 79) (tgt := 92) (dK D_Law_others_0 40 rfl) rfl ?_
      obtain rfl := Option.some.inj h
      exact wk_iretI (pc := 92) (dK D_Law_others_0 46 rfl) rfl (bdk hb) (bdn hb) ⟨rfl, (inRk rfl), rfl⟩
  · replace h := ifN h hc197
    refine x_aloadn (pc := 56) (i0 := 1) (j := 2) (dK D_Law_others_0 28 rfl) rfl rfl ?_
    refine bnE h ?_
    clear h
    intro v191 e_v191 h
    refine wx_getV (pc := 57) (ci := 12) (f := 7) e_v191 (dK D_Law_others_0 29 rfl) q_782 (ltK rfl) (ltK rfl) (fun hv191 => ?_)
    refine x_iload (pc := 60) (j := 3) (dK D_Law_others_0 30 rfl) rfl ?_
    refine x_iload (pc := 62) (j := 4) (dK D_Law_others_0 31 rfl) rfl ?_
    refine rfE h ?_
    clear h
    intro r192 e_r192 h
    rw [e_r192]
    refine bnE h ?_
    clear h
    intro L193 e_L193 h
    refine wx_zast (Z := (S, L)) (pc := 64) (z := a8) e_L193 ha5 (dK D_Law_others_0 32 rfl) ?_
    refine x_aloadn (pc := 65) (i0 := 0) (j := 1) (dK D_Law_others_0 33 rfl) rfl rfl ?_
    refine x_iload (pc := 66) (j := 3) (dK D_Law_others_0 34 rfl) rfl ?_
    refine x_iload (pc := 68) (j := 4) (dK D_Law_others_0 35 rfl) rfl ?_
    refine bnE h ?_
    clear h
    intro p194 e_p194 h
    refine gdE h ?_
    clear h
    intro hz_p194 h
    obtain ⟨yp194, h9, e9⟩ := adE2 h
    clear h
    subst e9
    have h := h9
    clear h9
    have hk1 := bd1 hb
    have hn1 := bd2 hb
    replace hb := bdA hb
    refine x_callX (pc := 70) (As := [V a5, V a8]) (rest := []) (mc' := 1) (ms' := 6) (dK D_Law_others_0 36 rfl) Q_Law_421 sx_FP_setColor (fitK rfl) (isK_at (Z := (S, L193)) (ci := 10) isK0) rfl (leK rfl) hk1 hn1 (clTB hz_p194 (fun E => tf_FP_setColor (X := xz L193) rfl xz_hc ha5 ha8 e_p194)) (kxB' ?_)
    refine x_iload (pc := 73) (j := 0) (dK D_Law_others_0 37 rfl) rfl ?_
    refine wx_icmp_eq (pc := 75) (t := 82) (dK D_Law_others_0 38 rfl) rfl (bi_in _) hst0 (fun hc196 => ?_) (fun hc196 => ?_)
    · replace h := ifP h hc196
      refine x_iload (pc := 82) (j := 0) (dK D_Law_others_0 41 rfl) rfl ?_
      refine wx_if_eq (pc := 84) (t := 91) (dK D_Law_others_0 42 rfl) rfl hst0 (fun hc195 => ?_) (fun hc195 => ?_)
      · replace h := ifP h hc195
        refine wx_iconst (pc := 91) (dK D_Law_others_0 45 rfl) ?_
        obtain rfl := Option.some.inj h
        exact wk_iretI (pc := 92) (dK D_Law_others_0 46 rfl) rfl (bdk hb) (bdn hb) ⟨rfl, (inRk rfl), rfl⟩
      · replace h := ifN h hc195
        refine wx_iconst (pc := 87) (dK D_Law_others_0 43 rfl) ?_
        refine x_goto (pc := 88) (tgt := 92) (dK D_Law_others_0 44 rfl) rfl ?_
        obtain rfl := Option.some.inj h
        exact wk_iretI (pc := 92) (dK D_Law_others_0 46 rfl) rfl (bdk hb) (bdn hb) ⟨rfl, (inRk rfl), rfl⟩
    · replace h := ifN h hc196
      refine wx_iconst (pc := 78) (dK D_Law_others_0 39 rfl) ?_
      refine x_goto (pc := 79) (tgt := 92) (dK D_Law_others_0 40 rfl) rfl ?_
      obtain rfl := Option.some.inj h
      exact wk_iretI (pc := 92) (dK D_Law_others_0 46 rfl) rfl (bdk hb) (bdn hb) ⟨rfl, (inRk rfl), rfl⟩
def gn_Law_others (c1 : Nat) (a2 : Int) (a3 : Int) (a4 : Int) (a5 : Int) (c6 : Value) (a7 : Int) (S : St) (L : List PC) : Option ((Int × LZ) × Nat × Nat) := if a2 = 11 then (nm (wr (a4.tmod 2)) fun v184 => if v184 = 0 then (bnO (gfV L c1 12 8) fun v202 => rfB v202 fun r203 => bnO (ald L 2 r203 a5) fun v204 => if v204 = 0 then (jf2_Law_others_49 c1 a5 1 1 S L) else (jf2_Law_others_49 c1 a5 1 0 S L)) else (bnO (gfV L c1 12 8) fun v185 => rfB v185 fun r186 => bnO (ald L 2 r186 a5) fun v187 => if v187 = 0 then (if isK L c1 12 = true then (bnO (gn_LP_hasColor c1 a5 S L) fun p198 => adC p198.2.1 p198.2.2 (if p198.1.1 = true then (jf2_Law_others_49 c1 a5 0 0 p198.1.2.1 p198.1.2.2) else (jf2_Law_others_49 c1 a5 0 1 p198.1.2.1 p198.1.2.2))) else none) else (jf2_Law_others_49 c1 a5 0 0 S L))) else (if a2 = 12 then (nm (wr (1 + (a4.tmod 40))) fun v161 => bnO (gfV L c1 12 8) fun v162 => rfB v162 fun r163 => bnO (ald L 2 r163 a5) fun v164 => if v164 = 0 then (bnO (gfV L c1 12 9) fun v165 => rfB v165 fun r166 => bnO (ald L 0 r166 a5) fun v167 => jf2_Law_others_130 c1 a5 v161 v167 S L) else (jf2_Law_others_130 c1 a5 v161 (-4) S L)) else (if 15 ≤ a2 then (if a2 = 15 then (bnO (gfV L c1 12 8) fun v117 => rfB v117 fun r118 => bnO (ald L 2 r118 a5) fun v119 => if v119 = 0 then (if isK L c1 12 = true then (bnO (gn_LP_late c1 a5 S L) fun p149 => adC p149.2.1 p149.2.2 (if p149.1.1 = 0 then (jf2_Law_others_271 c1 a5 1 p149.1.2.1 p149.1.2.2) else (jf2_Law_others_271 c1 a5 0 p149.1.2.1 p149.1.2.2))) else none) else (jf2_Law_others_271 c1 a5 0 S L)) else (if a2 = 16 then (bnO (fn_FP_placeAds 0 S) fun p113 => bnO (gn_Law_places c1 p113.2 L) fun p114 => adC p114.2.1 p114.2.2 (if p113.1 = p114.1.1 then (some ((1, (p114.1.2.1, p114.1.2.2)), 0, 0)) else (some (((-1), (p114.1.2.1, p114.1.2.2)), 0, 0)))) else (if a2 = 17 then (bnO (lo2_Law_others_405 c1 FU (0, 8, (S, L))) fun p109 => adC p109.2.1 p109.2.2 (bnO (fn_FP_layStories 0 p109.1.2.1) fun p110 => if p110.1 = p109.1.1 then (some ((1, (p110.2, p109.1.2.2)), 0, 0)) else (some (((-1), (p110.2, p109.1.2.2)), 0, 0)))) else (if a2 = 18 then (jf2_Law_others_563 c1 a3 a4 S L) else (nlB c6 (jf2_Law_others_563 c1 a3 a4 S L) (if a2 = 19 then (rfB c6 fun r46 => bnO (gfI L r46 11 5) fun v47 => if v47 = 0 then (nm (wr (a4.tmod 2)) fun v60 => if v60 = 0 then (bnO (pf L r46 11 6 (V 1)) fun L65 => nm (wr (a4.tdiv 2)) fun v66 => nm (wr (v66.tmod 3)) fun v67 => bnO (pf L65 r46 11 2 (V v67)) fun L68 => jf2_Law_others_756 a4 a7 1 S L68) else (bnO (pf L r46 11 6 (V 0)) fun L61 => nm (wr (a4.tdiv 2)) fun v62 => nm (wr (v62.tmod 3)) fun v63 => bnO (pf L61 r46 11 2 (V v63)) fun L64 => jf2_Law_others_756 a4 a7 1 S L64)) else (jf2_Law_others_756 a4 a7 0 S L)) else (rfB c6 fun r39 => bnO (gfI L r39 11 3) fun v40 => nm (wr (1 + (a4.tmod 999))) fun v41 => bnO (pf L r39 11 3 (V v41)) fun L42 => bnO (gfI L42 r39 11 3) fun v43 => bnO (fn_FP_setPrice 0 a7 v43 S) fun p44 => if p44.1 = 0 then (adC 2 12 (if p44.2.1 = v40 then (some ((1, (p44.2.2, L42)), 0, 0)) else (some (((-1), (p44.2.2, L42)), 0, 0)))) else none))))))) else (nm (wr (1 + (a3.tmod 7))) fun v154 => bnO (fn_FP_pass 0 v154 S) fun p155 => if p155.1 = 0 then (adC 1 6 (nm (wr (1 + (a3.tmod 7))) fun v156 => if isK L c1 12 = true then (bnO (gn_LP_pass c1 v156 p155.2.2 L) fun p157 => adC p157.2.1 p157.2.2 (if p155.2.1 = p157.1.1 then (some ((1, (p157.1.2.1, p157.1.2.2)), 0, 0)) else (some (((-1), (p157.1.2.1, p157.1.2.2)), 0, 0)))) else none)) else none)))
set_option maxHeartbeats 20000000 in
theorem te_Law_others {sc : SC} {c1 : Nat} {a2 : Int} (ha2 : inR a2) {a3 : Int} (ha3 : inR a3) {a4 : Int} (ha4 : inR a4) {a5 : Int} (ha5 : inR a5) {c6 : Value} (hc6 : c6 = .null ∨ ∃ b, c6 = .ref b) {a7 : Int} (ha7 : inR a7) {S : St} {L : List PC} {q : (Int × LZ) × Nat × Nat} (h : gn_Law_others c1 a2 a3 a4 a5 c6 a7 S L = some q) {mc ms k n : Nat} (hb : Bd k n mc ms q) : GX sc M_Law_others mc ms 0 [(0, .ref 0), (1, .ref c1), (2, V a2), (3, V a3), (4, V a4), (5, V a5), (6, c6), (7, V a7)] [] (wz (S, L)) k n (KXI q.1.1 q.1.2) := by
  unfold gn_Law_others at h
  refine x_iloadn (pc := 0) (i0 := 2) (j := 2) (dK D_Law_others_0 0 rfl) rfl rfl ?_
  refine wx_bipush (pc := 1) (dK D_Law_others_0 1 rfl) rfl ?_
  refine wx_icmp_ne (pc := 3) (t := 93) (dK D_Law_others_0 2 rfl) rfl ha2 (inRk rfl) (fun hc207 => ?_) (fun hc207 => ?_)
  · replace h := ifN h hc207
    refine x_iloadn (pc := 93) (i0 := 2) (j := 2) (dK D_Law_others_0 47 rfl) rfl rfl ?_
    refine wx_bipush (pc := 94) (dK D_Law_others_0 48 rfl) rfl ?_
    refine wx_icmp_ne (pc := 96) (t := 206) (dK D_Law_others_0 49 rfl) rfl ha2 (inRk rfl) (fun hc183 => ?_) (fun hc183 => ?_)
    · replace h := ifN h hc183
      refine x_iloadn (pc := 206) (i0 := 2) (j := 2) (dK D_Law_others_2 5 rfl) rfl rfl ?_
      refine wx_bipush (pc := 207) (dK D_Law_others_2 6 rfl) rfl ?_
      refine wx_icmp_ge (pc := 209) (t := 241) (dK D_Law_others_2 7 rfl) rfl ha2 (inRk rfl) (fun hc160 => ?_) (fun hc160 => ?_)
      · replace h := ifP h hc160
        refine x_iloadn (pc := 241) (i0 := 2) (j := 2) (dK D_Law_others_2 27 rfl) rfl rfl ?_
        refine wx_bipush (pc := 242) (dK D_Law_others_2 28 rfl) rfl ?_
        refine wx_icmp_ne (pc := 244) (t := 369) (dK D_Law_others_2 29 rfl) rfl ha2 (inRk rfl) (fun hc153 => ?_) (fun hc153 => ?_)
        · replace h := ifN h hc153
          refine x_iloadn (pc := 369) (i0 := 2) (j := 2) (dK D_Law_others_3 40 rfl) rfl rfl ?_
          refine wx_bipush (pc := 370) (dK D_Law_others_3 41 rfl) rfl ?_
          refine wx_icmp_ne (pc := 372) (t := 392) (dK D_Law_others_3 42 rfl) rfl ha2 (inRk rfl) (fun hc116 => ?_) (fun hc116 => ?_)
          · replace h := ifN h hc116
            refine x_iloadn (pc := 392) (i0 := 2) (j := 2) (dK D_Law_others_4 2 rfl) rfl rfl ?_
            refine wx_bipush (pc := 393) (dK D_Law_others_4 3 rfl) rfl ?_
            refine wx_icmp_ne (pc := 395) (t := 552) (dK D_Law_others_4 4 rfl) rfl ha2 (inRk rfl) (fun hc112 => ?_) (fun hc112 => ?_)
            · replace h := ifN h hc112
              refine x_iloadn (pc := 552) (i0 := 2) (j := 2) (dK D_Law_others_5 21 rfl) rfl rfl ?_
              refine wx_bipush (pc := 553) (dK D_Law_others_5 22 rfl) rfl ?_
              refine wx_icmp_eq (pc := 555) (t := 563) (dK D_Law_others_5 23 rfl) rfl ha2 (inRk rfl) (fun hc72 => ?_) (fun hc72 => ?_)
              · replace h := ifP h hc72
                refine x_weak (ls' := [(0, .ref 0), (1, .ref c1), (3, V a3), (4, V a4)]) (sbc 0 rfl (sbc 1 rfl (sbc 3 rfl (sbc 4 rfl sbn)))) ?_
                exact tj2_Law_others_563 ha3 ha4 h hb
              · replace h := ifN h hc72
                refine x_aloadV (pc := 558) (j := 6) hc6 (dK D_Law_others_5 24 rfl) rfl ?_
                refine nlE h ?_ ?_
                · clear h
                  intro hc37 h
                  refine x_ifnonnull (pc := 560) (tgt := 702) hc6 (dK D_Law_others_5 25 rfl) rfl (fun e => absurd hc37 e) (fun _ => ?_)
                  refine x_weak (ls' := [(0, .ref 0), (1, .ref c1), (3, V a3), (4, V a4)]) (sbc 0 rfl (sbc 1 rfl (sbc 3 rfl (sbc 4 rfl sbn)))) ?_
                  exact tj2_Law_others_563 ha3 ha4 h hb
                · clear h
                  intro hc38 h
                  refine x_ifnonnull (pc := 560) (tgt := 702) hc6 (dK D_Law_others_5 25 rfl) rfl (fun _ => ?_) (fun e => absurd e hc38)
                  refine x_iloadn (pc := 702) (i0 := 2) (j := 2) (dK D_Law_others_7 0 rfl) rfl rfl ?_
                  refine wx_bipush (pc := 703) (dK D_Law_others_7 1 rfl) rfl ?_
                  refine wx_icmp_ne (pc := 705) (t := 800) (dK D_Law_others_7 2 rfl) rfl ha2 (inRk rfl) (fun hc71 => ?_) (fun hc71 => ?_)
                  · replace h := ifN h hc71
                    refine x_aloadV (pc := 800) (j := 6) hc6 (dK D_Law_others_8 3 rfl) rfl ?_
                    refine rfE h ?_
                    clear h
                    intro r39 e_r39 h
                    rw [e_r39]
                    refine bnE h ?_
                    clear h
                    intro v40 e_v40 h
                    refine wx_getI (pc := 802) (ci := 11) (f := 3) e_v40 (dK D_Law_others_8 4 rfl) q_882 (ltK rfl) (ltK rfl) ?_
                    refine x_istore (pc := 805) (ls2 := [(8, V v40), (0, .ref 0), (1, .ref c1), (2, V a2), (3, V a3), (4, V a4), (5, V a5), (6, .ref r39), (7, V a7)]) (dK D_Law_others_8 5 rfl) (ltK rfl) rfl ?_
                    refine x_aload (pc := 807) (j := 7) (dK D_Law_others_8 6 rfl) rfl ?_
                    refine wx_iconst (pc := 809) (dK D_Law_others_8 7 rfl) ?_
                    refine x_iload (pc := 810) (j := 5) (dK D_Law_others_8 8 rfl) rfl ?_
                    refine wx_sipush (pc := 812) (dK D_Law_others_8 9 rfl) rfl ?_
                    refine wx_irem (pc := 815) (dK D_Law_others_8 10 rfl) ha4 (inRk rfl) (by decide) ?_
                    refine wx_iadd (pc := 816) (dK D_Law_others_8 11 rfl) ?_
                    refine nmE h ?_
                    clear h
                    intro v41 e_v41 h
                    refine wtop e_v41 ?_
                    refine bnE h ?_
                    clear h
                    intro L42 e_L42 h
                    refine wx_put (Z := (S, L)) (pc := 817) (ci := 11) (f := 3) e_L42 (dK D_Law_others_8 12 rfl) q_882 (ltK rfl) (ltK rfl) rfl okInt ?_
                    refine x_aloadn (pc := 820) (i0 := 0) (j := 1) (dK D_Law_others_8 13 rfl) rfl rfl ?_
                    refine x_iload (pc := 821) (j := 8) (dK D_Law_others_8 14 rfl) rfl ?_
                    refine x_aload (pc := 823) (j := 7) (dK D_Law_others_8 15 rfl) rfl ?_
                    refine bnE h ?_
                    clear h
                    intro v43 e_v43 h
                    refine wx_getI (pc := 825) (ci := 11) (f := 3) e_v43 (dK D_Law_others_8 16 rfl) q_882 (ltK rfl) (ltK rfl) ?_
                    refine bnE h ?_
                    clear h
                    intro p44 e_p44 h
                    refine gdE h ?_
                    clear h
                    intro hz_p44 h
                    obtain ⟨yp44, h9, e9⟩ := adE2 h
                    clear h
                    subst e9
                    have h := h9
                    clear h9
                    have hk1 := bd1 hb
                    have hn1 := bd2 hb
                    replace hb := bdA hb
                    refine x_callX (pc := 828) (As := [V a7, V v43]) (rest := []) (mc' := 2) (ms' := 12) (dK D_Law_others_8 17 rfl) Q_Law_454 sx_FP_setPrice (fitK rfl) (isK_at (Z := (S, L42)) (ci := 10) isK0) rfl (leK rfl) hk1 hn1 (clTI hz_p44 (fun E => tf_FP_setPrice (X := xz L42) rfl xz_hc ha7 (vI_at e_v43).2 e_p44)) (kxI' (fun h_p44 => ?_))
                    refine x_iload (pc := 831) (j := 0) (dK D_Law_others_8 18 rfl) rfl ?_
                    refine wx_icmp_eq (pc := 833) (t := 840) (dK D_Law_others_8 19 rfl) rfl h_p44 (vI_at e_v40).2 (fun hc45 => ?_) (fun hc45 => ?_)
                    · replace h := ifP h hc45
                      refine wx_iconst (pc := 840) (dK D_Law_others_8 22 rfl) ?_
                      obtain rfl := Option.some.inj h
                      exact wk_iretI (pc := 841) (dK D_Law_others_8 23 rfl) rfl (bdk hb) (bdn hb) ⟨rfl, (inRk rfl), rfl⟩
                    · replace h := ifN h hc45
                      refine wx_iconst (pc := 836) (dK D_Law_others_8 20 rfl) ?_
                      refine x_goto (pc := 837) (tgt := 841) (dK D_Law_others_8 21 rfl) rfl ?_
                      obtain rfl := Option.some.inj h
                      exact wk_iretI (pc := 841) (dK D_Law_others_8 23 rfl) rfl (bdk hb) (bdn hb) ⟨rfl, (inRk rfl), rfl⟩
                  · replace h := ifP h hc71
                    refine x_aloadV (pc := 708) (j := 6) hc6 (dK D_Law_others_7 3 rfl) rfl ?_
                    refine rfE h ?_
                    clear h
                    intro r46 e_r46 h
                    rw [e_r46]
                    refine bnE h ?_
                    clear h
                    intro v47 e_v47 h
                    refine wx_getI (pc := 710) (ci := 11) (f := 5) e_v47 (dK D_Law_others_7 4 rfl) q_889 (ltK rfl) (ltK rfl) ?_
                    refine wx_if_ne (pc := 713) (t := 720) (dK D_Law_others_7 5 rfl) rfl (vI_at e_v47).2 (fun hc70 => ?_) (fun hc70 => ?_)
                    · replace h := ifN h hc70
                      refine wx_iconst (pc := 720) (dK D_Law_others_7 8 rfl) ?_
                      refine x_istore (pc := 721) (ls2 := [(8, V 0), (0, .ref 0), (1, .ref c1), (2, V a2), (3, V a3), (4, V a4), (5, V a5), (6, .ref r46), (7, V a7)]) (dK D_Law_others_7 9 rfl) (ltK rfl) rfl ?_
                      refine x_iload (pc := 723) (j := 0) (dK D_Law_others_7 10 rfl) rfl ?_
                      refine wx_if_eq (pc := 725) (t := 756) (dK D_Law_others_7 11 rfl) rfl (inRk rfl) (fun _ => ?_) (fun hc => absurd hc (by decide))
                      refine x_weak (ls' := [(0, .ref 0), (4, V a4), (7, V a7), (8, V 0)]) (sbc 1 rfl (sbc 5 rfl (sbc 8 rfl (sbc 0 rfl sbn)))) ?_
                      exact tj2_Law_others_756 ha4 ha7 (inRk rfl) h hb
                    · replace h := ifP h hc70
                      refine wx_iconst (pc := 716) (dK D_Law_others_7 6 rfl) ?_
                      refine x_goto (pc := 717) (tgt := 721) (dK D_Law_others_7 7 rfl) rfl ?_
                      refine x_istore (pc := 721) (ls2 := [(8, V 1), (0, .ref 0), (1, .ref c1), (2, V a2), (3, V a3), (4, V a4), (5, V a5), (6, .ref r46), (7, V a7)]) (dK D_Law_others_7 9 rfl) (ltK rfl) rfl ?_
                      refine x_iload (pc := 723) (j := 0) (dK D_Law_others_7 10 rfl) rfl ?_
                      refine wx_if_eq (pc := 725) (t := 756) (dK D_Law_others_7 11 rfl) rfl (inRk rfl) (fun hc => absurd hc (by decide)) (fun _ => ?_)
                      refine x_aload (pc := 728) (j := 7) (dK D_Law_others_7 12 rfl) rfl ?_
                      refine x_iload (pc := 730) (j := 5) (dK D_Law_others_7 13 rfl) rfl ?_
                      refine wx_iconst (pc := 732) (dK D_Law_others_7 14 rfl) ?_
                      refine wx_irem (pc := 733) (dK D_Law_others_7 15 rfl) ha4 (inRk rfl) (by decide) ?_
                      refine nmE h ?_
                      clear h
                      intro v60 e_v60 h
                      refine wtop e_v60 ?_
                      refine wx_if_ne (pc := 734) (t := 741) (dK D_Law_others_7 16 rfl) rfl (Vn_in e_v60) (fun hc69 => ?_) (fun hc69 => ?_)
                      · replace h := ifN h hc69
                        refine wx_iconst (pc := 741) (dK D_Law_others_7 19 rfl) ?_
                        refine bnE h ?_
                        clear h
                        intro L61 e_L61 h
                        refine wx_put (Z := (S, L)) (pc := 742) (ci := 11) (f := 6) e_L61 (dK D_Law_others_7 20 rfl) q_891 (ltK rfl) (ltK rfl) rfl (okBool (by decide)) ?_
                        refine x_aload (pc := 745) (j := 7) (dK D_Law_others_7 21 rfl) rfl ?_
                        refine x_iload (pc := 747) (j := 5) (dK D_Law_others_7 22 rfl) rfl ?_
                        refine wx_iconst (pc := 749) (dK D_Law_others_7 23 rfl) ?_
                        refine wx_idiv (pc := 750) (dK D_Law_others_7 24 rfl) ha4 (inRk rfl) (by decide) ?_
                        refine wx_iconst (pc := 751) (dK D_Law_others_7 25 rfl) ?_
                        refine nmE h ?_
                        clear h
                        intro v62 e_v62 h
                        refine wsk (st' := [V 3, V v62, .ref r46]) (congrArg (fun z9 => [V 3, z9, .ref r46]) (Vn e_v62)) ?_
                        refine wx_irem (pc := 752) (dK D_Law_others_7 26 rfl) (Vn_in e_v62) (inRk rfl) (by decide) ?_
                        refine nmE h ?_
                        clear h
                        intro v63 e_v63 h
                        refine wtop e_v63 ?_
                        refine bnE h ?_
                        clear h
                        intro L64 e_L64 h
                        refine wx_put (Z := (S, L61)) (pc := 753) (ci := 11) (f := 2) e_L64 (dK D_Law_others_7 27 rfl) q_879 (ltK rfl) (ltK rfl) rfl okInt ?_
                        refine x_weak (ls' := [(0, .ref 0), (4, V a4), (7, V a7), (8, V 1)]) (sbc 1 rfl (sbc 5 rfl (sbc 8 rfl (sbc 0 rfl sbn)))) ?_
                        exact tj2_Law_others_756 ha4 ha7 (inRk rfl) h hb
                      · replace h := ifP h hc69
                        refine wx_iconst (pc := 737) (dK D_Law_others_7 17 rfl) ?_
                        refine x_goto (pc := 738) (tgt := 742) (dK D_Law_others_7 18 rfl) rfl ?_
                        refine bnE h ?_
                        clear h
                        intro L65 e_L65 h
                        refine wx_put (Z := (S, L)) (pc := 742) (ci := 11) (f := 6) e_L65 (dK D_Law_others_7 20 rfl) q_891 (ltK rfl) (ltK rfl) rfl (okBool (by decide)) ?_
                        refine x_aload (pc := 745) (j := 7) (dK D_Law_others_7 21 rfl) rfl ?_
                        refine x_iload (pc := 747) (j := 5) (dK D_Law_others_7 22 rfl) rfl ?_
                        refine wx_iconst (pc := 749) (dK D_Law_others_7 23 rfl) ?_
                        refine wx_idiv (pc := 750) (dK D_Law_others_7 24 rfl) ha4 (inRk rfl) (by decide) ?_
                        refine wx_iconst (pc := 751) (dK D_Law_others_7 25 rfl) ?_
                        refine nmE h ?_
                        clear h
                        intro v66 e_v66 h
                        refine wsk (st' := [V 3, V v66, .ref r46]) (congrArg (fun z9 => [V 3, z9, .ref r46]) (Vn e_v66)) ?_
                        refine wx_irem (pc := 752) (dK D_Law_others_7 26 rfl) (Vn_in e_v66) (inRk rfl) (by decide) ?_
                        refine nmE h ?_
                        clear h
                        intro v67 e_v67 h
                        refine wtop e_v67 ?_
                        refine bnE h ?_
                        clear h
                        intro L68 e_L68 h
                        refine wx_put (Z := (S, L65)) (pc := 753) (ci := 11) (f := 2) e_L68 (dK D_Law_others_7 27 rfl) q_879 (ltK rfl) (ltK rfl) rfl okInt ?_
                        refine x_weak (ls' := [(0, .ref 0), (4, V a4), (7, V a7), (8, V 1)]) (sbc 1 rfl (sbc 5 rfl (sbc 8 rfl (sbc 0 rfl sbn)))) ?_
                        exact tj2_Law_others_756 ha4 ha7 (inRk rfl) h hb
            · replace h := ifP h hc112
              refine wx_iconst (pc := 398) (dK D_Law_others_4 5 rfl) ?_
              refine x_istore (pc := 399) (ls2 := [(8, V 0), (0, .ref 0), (1, .ref c1), (2, V a2), (3, V a3), (4, V a4), (5, V a5), (6, c6), (7, V a7)]) (dK D_Law_others_4 6 rfl) (ltK rfl) rfl ?_
              refine wx_bipush (pc := 401) (dK D_Law_others_4 7 rfl) rfl ?_
              refine x_istore (pc := 403) (ls2 := [(9, V 8), (8, V 0), (0, .ref 0), (1, .ref c1), (2, V a2), (3, V a3), (4, V a4), (5, V a5), (6, c6), (7, V a7)]) (dK D_Law_others_4 8 rfl) (ltK rfl) rfl ?_
              refine bnE h ?_
              clear h
              intro p109 e_p109 h
              obtain ⟨yp109, h9, e9⟩ := adE2 h
              clear h
              subst e9
              have h := h9
              clear h9
              have hk1 := bd1 hb
              have hn1 := bd2 hb
              replace hb := bdA hb
              refine x_weak (ls' := [(0, .ref 0), (1, .ref c1), (8, V 0), (9, V 8)]) (sbc 2 rfl (sbc 3 rfl (sbc 1 rfl (sbc 0 rfl sbn)))) ?_
              refine tl2_Law_others_405  hk1 hn1 FU _ _ e_p109 _ _ ⟨Nat.le_refl _, Nat.le_refl _⟩ (inRk rfl) (inRk rfl) (fun hx8_p109 => ?_)
              refine x_aloadn (pc := 537) (i0 := 0) (j := 0) (dK D_Law_others_5 13 rfl) rfl rfl ?_
              refine bnE h ?_
              clear h
              intro p110 e_p110 h
              refine x_callX (pc := 538) (As := []) (rest := []) (mc' := 0) (ms' := 0) (dK D_Law_others_5 14 rfl) Q_Law_443 sx_FP_layStories (fitK rfl) (isK_at (Z := (p109.1.2.1, p109.1.2.2)) (ci := 10) isK0) rfl (leK rfl) (bdk hb) (bdn hb) (clI (fun E => tf_FP_layStories (X := xz p109.1.2.2) xz_hc  e_p110)) (kxI' (fun h_p110 => ?_))
              refine x_iload (pc := 541) (j := 1) (dK D_Law_others_5 15 rfl) rfl ?_
              refine wx_icmp_eq (pc := 543) (t := 550) (dK D_Law_others_5 16 rfl) rfl h_p110 hx8_p109 (fun hc111 => ?_) (fun hc111 => ?_)
              · replace h := ifP h hc111
                refine wx_iconst (pc := 550) (dK D_Law_others_5 19 rfl) ?_
                obtain rfl := Option.some.inj h
                exact wk_iretI (pc := 551) (dK D_Law_others_5 20 rfl) rfl (bdk hb) (bdn hb) ⟨rfl, (inRk rfl), rfl⟩
              · replace h := ifN h hc111
                refine wx_iconst (pc := 546) (dK D_Law_others_5 17 rfl) ?_
                refine x_goto (pc := 547) (tgt := 551) (dK D_Law_others_5 18 rfl) rfl ?_
                obtain rfl := Option.some.inj h
                exact wk_iretI (pc := 551) (dK D_Law_others_5 20 rfl) rfl (bdk hb) (bdn hb) ⟨rfl, (inRk rfl), rfl⟩
          · replace h := ifP h hc116
            refine x_aloadn (pc := 375) (i0 := 0) (j := 0) (dK D_Law_others_3 43 rfl) rfl rfl ?_
            refine bnE h ?_
            clear h
            intro p113 e_p113 h
            refine x_callX (pc := 376) (As := []) (rest := []) (mc' := 0) (ms' := 0) (dK D_Law_others_3 44 rfl) Q_Law_436 sx_FP_placeAds (fitK rfl) (isK_at (Z := (S, L)) (ci := 10) isK0) rfl (leK rfl) (bdk hb) (bdn hb) (clI (fun E => tf_FP_placeAds (X := xz L) xz_hc  e_p113)) (kxI' (fun h_p113 => ?_))
            refine x_aloadn (pc := 379) (i0 := 1) (j := 1) (dK D_Law_others_3 45 rfl) rfl rfl ?_
            refine bnE h ?_
            clear h
            intro p114 e_p114 h
            obtain ⟨yp114, h9, e9⟩ := adE2 h
            clear h
            subst e9
            have h := h9
            clear h9
            have hk1 := bd1 hb
            have hn1 := bd2 hb
            replace hb := bdA hb
            refine x_callS (pc := 380) (As := [.ref c1]) (rest := [V p113.1]) (mc' := p114.2.1) (ms' := p114.2.2) (dK D_Law_others_3 46 rfl) Q_Law_439 (fitK rfl) rfl (leK rfl) hk1 hn1 (tg_Law_places  e_p114) (kxI' (fun h_p114 => ?_))
            refine wx_icmp_eq (pc := 383) (t := 390) (dK D_Law_others_3 47 rfl) rfl h_p113 h_p114 (fun hc115 => ?_) (fun hc115 => ?_)
            · replace h := ifP h hc115
              refine wx_iconst (pc := 390) (dK D_Law_others_4 0 rfl) ?_
              obtain rfl := Option.some.inj h
              exact wk_iretI (pc := 391) (dK D_Law_others_4 1 rfl) rfl (bdk hb) (bdn hb) ⟨rfl, (inRk rfl), rfl⟩
            · replace h := ifN h hc115
              refine wx_iconst (pc := 386) (dK D_Law_others_3 48 rfl) ?_
              refine x_goto (pc := 387) (tgt := 391) (dK D_Law_others_3 49 rfl) rfl ?_
              obtain rfl := Option.some.inj h
              exact wk_iretI (pc := 391) (dK D_Law_others_4 1 rfl) rfl (bdk hb) (bdn hb) ⟨rfl, (inRk rfl), rfl⟩
        · replace h := ifP h hc153
          refine x_aloadn (pc := 247) (i0 := 1) (j := 1) (dK D_Law_others_2 30 rfl) rfl rfl ?_
          refine bnE h ?_
          clear h
          intro v117 e_v117 h
          refine wx_getV (pc := 248) (ci := 12) (f := 8) e_v117 (dK D_Law_others_2 31 rfl) q_784 (ltK rfl) (ltK rfl) (fun hv117 => ?_)
          refine x_iload (pc := 251) (j := 5) (dK D_Law_others_2 32 rfl) rfl ?_
          refine rfE h ?_
          clear h
          intro r118 e_r118 h
          rw [e_r118]
          refine bnE h ?_
          clear h
          intro v119 e_v119 h
          refine wx_zald (pc := 253) e_v119 ha5 (dK D_Law_others_2 33 rfl) ?_
          refine wx_if_ne (pc := 254) (t := 270) (dK D_Law_others_2 34 rfl) rfl (vI_at e_v119).2 (fun hc152 => ?_) (fun hc152 => ?_)
          · replace h := ifN h hc152
            refine wx_iconst (pc := 270) (dK D_Law_others_2 41 rfl) ?_
            refine x_weak (ls' := [(0, .ref 0), (1, .ref c1), (5, V a5)]) (sbc 0 rfl (sbc 1 rfl (sbc 5 rfl sbn))) ?_
            exact tj2_Law_others_271 ha5 (inRk rfl) h hb
          · replace h := ifP h hc152
            refine x_aloadn (pc := 257) (i0 := 1) (j := 1) (dK D_Law_others_2 35 rfl) rfl rfl ?_
            refine x_iload (pc := 258) (j := 5) (dK D_Law_others_2 36 rfl) rfl ?_
            refine gdE h ?_
            clear h
            intro hk150 h
            refine bnE h ?_
            clear h
            intro p149 e_p149 h
            obtain ⟨yp149, h9, e9⟩ := adE2 h
            clear h
            subst e9
            have h := h9
            clear h9
            have hk1 := bd1 hb
            have hn1 := bd2 hb
            replace hb := bdA hb
            refine x_callX (pc := 260) (As := [V a5]) (rest := []) (mc' := p149.2.1) (ms' := p149.2.2) (dK D_Law_others_2 37 rfl) Q_Law_225 sx_LP_late (fitK rfl) (isK_at (Z := (S, L)) (ci := 12) hk150) rfl (leK rfl) hk1 hn1 (tg_LP_late ha5 e_p149) (kxI' (fun h_p149 => ?_))
            refine wx_if_ne (pc := 263) (t := 270) (dK D_Law_others_2 38 rfl) rfl h_p149 (fun hc151 => ?_) (fun hc151 => ?_)
            · replace h := ifN h hc151
              refine wx_iconst (pc := 270) (dK D_Law_others_2 41 rfl) ?_
              refine x_weak (ls' := [(0, .ref 0), (1, .ref c1), (5, V a5)]) (sbc 0 rfl (sbc 1 rfl (sbc 5 rfl sbn))) ?_
              exact tj2_Law_others_271 ha5 (inRk rfl) h hb
            · replace h := ifP h hc151
              refine wx_iconst (pc := 266) (dK D_Law_others_2 39 rfl) ?_
              refine x_goto (pc := 267) (tgt := 271) (dK D_Law_others_2 40 rfl) rfl ?_
              refine x_weak (ls' := [(0, .ref 0), (1, .ref c1), (5, V a5)]) (sbc 0 rfl (sbc 1 rfl (sbc 5 rfl sbn))) ?_
              exact tj2_Law_others_271 ha5 (inRk rfl) h hb
      · replace h := ifN h hc160
        refine x_aloadn (pc := 212) (i0 := 0) (j := 0) (dK D_Law_others_2 8 rfl) rfl rfl ?_
        refine wx_iconst (pc := 213) (dK D_Law_others_2 9 rfl) ?_
        refine x_iloadn (pc := 214) (i0 := 3) (j := 3) (dK D_Law_others_2 10 rfl) rfl rfl ?_
        refine wx_bipush (pc := 215) (dK D_Law_others_2 11 rfl) rfl ?_
        refine wx_irem (pc := 217) (dK D_Law_others_2 12 rfl) ha3 (inRk rfl) (by decide) ?_
        refine wx_iadd (pc := 218) (dK D_Law_others_2 13 rfl) ?_
        refine nmE h ?_
        clear h
        intro v154 e_v154 h
        refine wtop e_v154 ?_
        refine bnE h ?_
        clear h
        intro p155 e_p155 h
        refine gdE h ?_
        clear h
        intro hz_p155 h
        obtain ⟨yp155, h9, e9⟩ := adE2 h
        clear h
        subst e9
        have h := h9
        clear h9
        have hk1 := bd1 hb
        have hn1 := bd2 hb
        replace hb := bdA hb
        refine x_callX (pc := 219) (As := [V v154]) (rest := []) (mc' := 1) (ms' := 6) (dK D_Law_others_2 14 rfl) Q_Law_432 sx_FP_pass (fitK rfl) (isK_at (Z := (S, L)) (ci := 10) isK0) rfl (leK rfl) hk1 hn1 (clTI hz_p155 (fun E => tf_FP_pass (X := xz L) rfl xz_hc (Vn_in e_v154) e_p155)) (kxI' (fun h_p155 => ?_))
        refine x_aloadn (pc := 222) (i0 := 1) (j := 1) (dK D_Law_others_2 15 rfl) rfl rfl ?_
        refine wx_iconst (pc := 223) (dK D_Law_others_2 16 rfl) ?_
        refine x_iloadn (pc := 224) (i0 := 3) (j := 3) (dK D_Law_others_2 17 rfl) rfl rfl ?_
        refine wx_bipush (pc := 225) (dK D_Law_others_2 18 rfl) rfl ?_
        refine wx_irem (pc := 227) (dK D_Law_others_2 19 rfl) ha3 (inRk rfl) (by decide) ?_
        refine wx_iadd (pc := 228) (dK D_Law_others_2 20 rfl) ?_
        refine nmE h ?_
        clear h
        intro v156 e_v156 h
        refine wtop e_v156 ?_
        refine gdE h ?_
        clear h
        intro hk158 h
        refine bnE h ?_
        clear h
        intro p157 e_p157 h
        obtain ⟨yp157, h9, e9⟩ := adE2 h
        clear h
        subst e9
        have h := h9
        clear h9
        have hk1 := bd1 hb
        have hn1 := bd2 hb
        replace hb := bdA hb
        refine x_callX (pc := 229) (As := [V v156]) (rest := [V p155.2.1]) (mc' := p157.2.1) (ms' := p157.2.2) (dK D_Law_others_2 21 rfl) Q_Law_252 sx_LP_pass (fitK rfl) (isK_at (Z := (p155.2.2, L)) (ci := 12) hk158) rfl (leK rfl) hk1 hn1 (tg_LP_pass (Vn_in e_v156) e_p157) (kxI' (fun h_p157 => ?_))
        refine wx_icmp_eq (pc := 232) (t := 239) (dK D_Law_others_2 22 rfl) rfl h_p155 h_p157 (fun hc159 => ?_) (fun hc159 => ?_)
        · replace h := ifP h hc159
          refine wx_iconst (pc := 239) (dK D_Law_others_2 25 rfl) ?_
          obtain rfl := Option.some.inj h
          exact wk_iretI (pc := 240) (dK D_Law_others_2 26 rfl) rfl (bdk hb) (bdn hb) ⟨rfl, (inRk rfl), rfl⟩
        · replace h := ifN h hc159
          refine wx_iconst (pc := 235) (dK D_Law_others_2 23 rfl) ?_
          refine x_goto (pc := 236) (tgt := 240) (dK D_Law_others_2 24 rfl) rfl ?_
          obtain rfl := Option.some.inj h
          exact wk_iretI (pc := 240) (dK D_Law_others_2 26 rfl) rfl (bdk hb) (bdn hb) ⟨rfl, (inRk rfl), rfl⟩
    · replace h := ifP h hc183
      refine wx_iconst (pc := 99) (dK D_Law_others_1 0 rfl) ?_
      refine x_iload (pc := 100) (j := 4) (dK D_Law_others_1 1 rfl) rfl ?_
      refine wx_bipush (pc := 102) (dK D_Law_others_1 2 rfl) rfl ?_
      refine wx_irem (pc := 104) (dK D_Law_others_1 3 rfl) ha4 (inRk rfl) (by decide) ?_
      refine wx_iadd (pc := 105) (dK D_Law_others_1 4 rfl) ?_
      refine nmE h ?_
      clear h
      intro v161 e_v161 h
      refine wtop e_v161 ?_
      refine x_istore (pc := 106) (ls2 := [(8, V v161), (0, .ref 0), (1, .ref c1), (2, V a2), (3, V a3), (4, V a4), (5, V a5), (6, c6), (7, V a7)]) (dK D_Law_others_1 5 rfl) (ltK rfl) rfl ?_
      refine x_aloadn (pc := 108) (i0 := 1) (j := 2) (dK D_Law_others_1 6 rfl) rfl rfl ?_
      refine bnE h ?_
      clear h
      intro v162 e_v162 h
      refine wx_getV (pc := 109) (ci := 12) (f := 8) e_v162 (dK D_Law_others_1 7 rfl) q_784 (ltK rfl) (ltK rfl) (fun hv162 => ?_)
      refine x_iload (pc := 112) (j := 6) (dK D_Law_others_1 8 rfl) rfl ?_
      refine rfE h ?_
      clear h
      intro r163 e_r163 h
      rw [e_r163]
      refine bnE h ?_
      clear h
      intro v164 e_v164 h
      refine wx_zald (pc := 114) e_v164 ha5 (dK D_Law_others_1 9 rfl) ?_
      refine wx_if_eq (pc := 115) (t := 123) (dK D_Law_others_1 10 rfl) rfl (vI_at e_v164).2 (fun hc182 => ?_) (fun hc182 => ?_)
      · replace h := ifP h hc182
        refine x_aloadn (pc := 123) (i0 := 1) (j := 2) (dK D_Law_others_1 13 rfl) rfl rfl ?_
        refine bnE h ?_
        clear h
        intro v165 e_v165 h
        refine wx_getV (pc := 124) (ci := 12) (f := 9) e_v165 (dK D_Law_others_1 14 rfl) q_786 (ltK rfl) (ltK rfl) (fun hv165 => ?_)
        refine x_iload (pc := 127) (j := 6) (dK D_Law_others_1 15 rfl) rfl ?_
        refine rfE h ?_
        clear h
        intro r166 e_r166 h
        rw [e_r166]
        refine bnE h ?_
        clear h
        intro v167 e_v167 h
        refine wx_iald (pc := 129) e_v167 ha5 (dK D_Law_others_1 16 rfl) ?_
        refine x_weak (ls' := [(0, .ref 0), (1, .ref c1), (5, V a5), (8, V v161)]) (sbc 1 rfl (sbc 2 rfl (sbc 6 rfl (sbc 0 rfl sbn)))) ?_
        exact tj2_Law_others_130 ha5 (Vn_in e_v161) (vI_at e_v167).2 h hb
      · replace h := ifN h hc182
        refine wx_bipush (pc := 118) (dK D_Law_others_1 11 rfl) rfl ?_
        refine x_goto (pc := 120) (tgt := 130) (dK D_Law_others_1 12 rfl) rfl ?_
        refine x_weak (ls' := [(0, .ref 0), (1, .ref c1), (5, V a5), (8, V v161)]) (sbc 1 rfl (sbc 2 rfl (sbc 6 rfl (sbc 0 rfl sbn)))) ?_
        exact tj2_Law_others_130 ha5 (Vn_in e_v161) (inRk rfl) h hb
  · replace h := ifP h hc207
    refine x_iload (pc := 6) (j := 4) (dK D_Law_others_0 3 rfl) rfl ?_
    refine wx_iconst (pc := 8) (dK D_Law_others_0 4 rfl) ?_
    refine wx_irem (pc := 9) (dK D_Law_others_0 5 rfl) ha4 (inRk rfl) (by decide) ?_
    refine nmE h ?_
    clear h
    intro v184 e_v184 h
    refine wtop e_v184 ?_
    refine wx_if_ne (pc := 10) (t := 17) (dK D_Law_others_0 6 rfl) rfl (Vn_in e_v184) (fun hc206 => ?_) (fun hc206 => ?_)
    · replace h := ifN h hc206
      refine wx_iconst (pc := 17) (dK D_Law_others_0 9 rfl) ?_
      refine x_istore (pc := 18) (ls2 := [(8, V 0), (0, .ref 0), (1, .ref c1), (2, V a2), (3, V a3), (4, V a4), (5, V a5), (6, c6), (7, V a7)]) (dK D_Law_others_0 10 rfl) (ltK rfl) rfl ?_
      refine x_aloadn (pc := 20) (i0 := 1) (j := 2) (dK D_Law_others_0 11 rfl) rfl rfl ?_
      refine bnE h ?_
      clear h
      intro v185 e_v185 h
      refine wx_getV (pc := 21) (ci := 12) (f := 8) e_v185 (dK D_Law_others_0 12 rfl) q_784 (ltK rfl) (ltK rfl) (fun hv185 => ?_)
      refine x_iload (pc := 24) (j := 6) (dK D_Law_others_0 13 rfl) rfl ?_
      refine rfE h ?_
      clear h
      intro r186 e_r186 h
      rw [e_r186]
      refine bnE h ?_
      clear h
      intro v187 e_v187 h
      refine wx_zald (pc := 26) e_v187 ha5 (dK D_Law_others_0 14 rfl) ?_
      refine wx_if_ne (pc := 27) (t := 48) (dK D_Law_others_0 15 rfl) rfl (vI_at e_v187).2 (fun hc201 => ?_) (fun hc201 => ?_)
      · replace h := ifN h hc201
        refine wx_iconst (pc := 48) (dK D_Law_others_0 24 rfl) ?_
        refine x_weak (ls' := [(0, .ref 0), (1, .ref c1), (5, V a5), (8, V 0)]) (sbc 1 rfl (sbc 2 rfl (sbc 6 rfl (sbc 0 rfl sbn)))) ?_
        exact tj2_Law_others_49 ha5 (inRk rfl) (inRk rfl) h hb
      · replace h := ifP h hc201
        refine x_iload (pc := 30) (j := 0) (dK D_Law_others_0 16 rfl) rfl ?_
        refine wx_if_ne (pc := 32) (t := 44) (dK D_Law_others_0 17 rfl) rfl (inRk rfl) (fun hc => absurd hc (by decide)) (fun _ => ?_)
        refine x_aloadn (pc := 35) (i0 := 1) (j := 2) (dK D_Law_others_0 18 rfl) rfl rfl ?_
        refine x_iload (pc := 36) (j := 6) (dK D_Law_others_0 19 rfl) rfl ?_
        refine gdE h ?_
        clear h
        intro hk199 h
        refine bnE h ?_
        clear h
        intro p198 e_p198 h
        obtain ⟨yp198, h9, e9⟩ := adE2 h
        clear h
        subst e9
        have h := h9
        clear h9
        have hk1 := bd1 hb
        have hn1 := bd2 hb
        replace hb := bdA hb
        refine x_callX (pc := 38) (As := [V a5]) (rest := []) (mc' := p198.2.1) (ms' := p198.2.2) (dK D_Law_others_0 20 rfl) Q_Law_228 sx_LP_hasColor (fitK rfl) (isK_at (Z := (S, L)) (ci := 12) hk199) rfl (leK rfl) hk1 hn1 (tg_LP_hasColor ha5 e_p198) (kxB' ?_)
        refine wx_ifB_ne (pc := 41) (b := p198.1.1) (t := 48) (dK D_Law_others_0 21 rfl) rfl (fun hc200 => ?_) (fun hc200 => ?_)
        · replace h := ifP h hc200
          refine wx_iconst (pc := 48) (dK D_Law_others_0 24 rfl) ?_
          refine x_weak (ls' := [(0, .ref 0), (1, .ref c1), (5, V a5), (8, V 0)]) (sbc 1 rfl (sbc 2 rfl (sbc 6 rfl (sbc 0 rfl sbn)))) ?_
          exact tj2_Law_others_49 ha5 (inRk rfl) (inRk rfl) h hb
        · replace h := ifN h hc200
          refine wx_iconst (pc := 44) (dK D_Law_others_0 22 rfl) ?_
          refine x_goto (pc := 45) (tgt := 49) (dK D_Law_others_0 23 rfl) rfl ?_
          refine x_weak (ls' := [(0, .ref 0), (1, .ref c1), (5, V a5), (8, V 0)]) (sbc 1 rfl (sbc 2 rfl (sbc 6 rfl (sbc 0 rfl sbn)))) ?_
          exact tj2_Law_others_49 ha5 (inRk rfl) (inRk rfl) h hb
    · replace h := ifP h hc206
      refine wx_iconst (pc := 13) (dK D_Law_others_0 7 rfl) ?_
      refine x_goto (pc := 14) (tgt := 18) (dK D_Law_others_0 8 rfl) rfl ?_
      refine x_istore (pc := 18) (ls2 := [(8, V 1), (0, .ref 0), (1, .ref c1), (2, V a2), (3, V a3), (4, V a4), (5, V a5), (6, c6), (7, V a7)]) (dK D_Law_others_0 10 rfl) (ltK rfl) rfl ?_
      refine x_aloadn (pc := 20) (i0 := 1) (j := 2) (dK D_Law_others_0 11 rfl) rfl rfl ?_
      refine bnE h ?_
      clear h
      intro v202 e_v202 h
      refine wx_getV (pc := 21) (ci := 12) (f := 8) e_v202 (dK D_Law_others_0 12 rfl) q_784 (ltK rfl) (ltK rfl) (fun hv202 => ?_)
      refine x_iload (pc := 24) (j := 6) (dK D_Law_others_0 13 rfl) rfl ?_
      refine rfE h ?_
      clear h
      intro r203 e_r203 h
      rw [e_r203]
      refine bnE h ?_
      clear h
      intro v204 e_v204 h
      refine wx_zald (pc := 26) e_v204 ha5 (dK D_Law_others_0 14 rfl) ?_
      refine wx_if_ne (pc := 27) (t := 48) (dK D_Law_others_0 15 rfl) rfl (vI_at e_v204).2 (fun hc205 => ?_) (fun hc205 => ?_)
      · replace h := ifN h hc205
        refine wx_iconst (pc := 48) (dK D_Law_others_0 24 rfl) ?_
        refine x_weak (ls' := [(0, .ref 0), (1, .ref c1), (5, V a5), (8, V 1)]) (sbc 1 rfl (sbc 2 rfl (sbc 6 rfl (sbc 0 rfl sbn)))) ?_
        exact tj2_Law_others_49 ha5 (inRk rfl) (inRk rfl) h hb
      · replace h := ifP h hc205
        refine x_iload (pc := 30) (j := 0) (dK D_Law_others_0 16 rfl) rfl ?_
        refine wx_if_ne (pc := 32) (t := 44) (dK D_Law_others_0 17 rfl) rfl (inRk rfl) (fun _ => ?_) (fun hc => absurd hc (by decide))
        refine wx_iconst (pc := 44) (dK D_Law_others_0 22 rfl) ?_
        refine x_goto (pc := 45) (tgt := 49) (dK D_Law_others_0 23 rfl) rfl ?_
        refine x_weak (ls' := [(0, .ref 0), (1, .ref c1), (5, V a5), (8, V 1)]) (sbc 1 rfl (sbc 2 rfl (sbc 6 rfl (sbc 0 rfl sbn)))) ?_
        exact tj2_Law_others_49 ha5 (inRk rfl) (inRk rfl) h hb
theorem tg_Law_others {sc : SC} {c1 : Nat} {a2 : Int} (ha2 : inR a2) {a3 : Int} (ha3 : inR a3) {a4 : Int} (ha4 : inR a4) {a5 : Int} (ha5 : inR a5) {c6 : Value} (hc6 : c6 = .null ∨ ∃ b, c6 = .ref b) {a7 : Int} (ha7 : inR a7) {S : St} {L : List PC} {q : (Int × LZ) × Nat × Nat} (h : gn_Law_others c1 a2 a3 a4 a5 c6 a7 S L = some q) : EvX sc M_Law_others [.ref 0, .ref c1, V a2, V a3, V a4, V a5, c6, V a7] (wz (S, L)) q.2.1 q.2.2 (KXI q.1.1 q.1.2) := by
  rcases hc6 with e_c6 | ⟨b_c6, e_c6⟩ <;> subst e_c6 <;>
  exact EvX.of pn2_Law rfl (leK rfl) (te_Law_others ha2 ha3 ha4 ha5 (by first | exact .inl rfl | exact .inr ⟨_, rfl⟩) ha7 h ⟨Nat.le_of_eq (Nat.zero_add _), Nat.le_of_eq (Nat.zero_add _)⟩)
