def fn_Mo_ad (c0 : Nat) (a1 : Int) (a2 : Int) (S : St) : Option (Int × St) := nm (u S c0 4 0) fun S1 => bnO (fn_Mo_isAd c0 a1 S1) fun p2 => if p2 = true then (bnO (fn_Mo_throwsIf c0 0 1 S1) fun p4 => if p4.1 = true then (some (0, p4.2)) else (bnO (fn_Mo_inRange a2 0 5 p4.2) fun p6 => if p6 = true then (bnO (fn_Mo_ofAd c0 a1 a2 p4.2) fun p14 => some (p14, p4.2)) else (if a2 = 6 then (bnO (fn_Mo_ofAd c0 a1 6 p4.2) fun p11 => bnO (fn_Mo_toldPage p11 p4.2) fun p12 => some (p12, p4.2)) else (if a2 = 7 then (bnO (fn_Mo_isAdLate c0 a1 p4.2) fun p8 => if p8 = true then (some (1, p4.2)) else (some (0, p4.2))) else (some ((-1), p4.2)))))) else (bnO (fn_Mo_throwsIf c0 1 1 S1) fun p15 => if p15.1 = true then (some (0, p15.2)) else (bnO (fn_Mo_inRange a2 0 5 p15.2) fun p17 => if p17 = true then (bnO (fn_Mo_ofAd c0 a1 a2 p15.2) fun p25 => some (p25, p15.2)) else (if a2 = 6 then (bnO (fn_Mo_ofAd c0 a1 6 p15.2) fun p22 => bnO (fn_Mo_toldPage p22 p15.2) fun p23 => some (p23, p15.2)) else (if a2 = 7 then (bnO (fn_Mo_isAdLate c0 a1 p15.2) fun p19 => if p19 = true then (some (1, p15.2)) else (some (0, p15.2))) else (some ((-1), p15.2))))))
theorem tf_Mo_ad {E : EV} {X : XT} {c0 : Nat} (hc0 : HC X 11 c0) {a1 : Int} (ha1 : inR a1) {a2 : Int} (ha2 : inR a2) {S : St} {q : Int × St} (h : fn_Mo_ad c0 a1 a2 S = some q) : Ev E M_Mo_ad [.ref c0, V a1, V a2] (WX X S) 0 0 (KI X q.1 q.2) := by
  refine Ev.of pn_Mo rfl (leK rfl) ?_
  show Go E M_Mo_ad 0 0 0 [(0, .ref c0), (1, V a1), (2, V a2)] [] (WX X S) 0 0 (KI X q.1 q.2)
  unfold fn_Mo_ad at h
  refine g_aloadn (pc := 0) (i0 := 0) (j := 0) (dK D_Mo_ad 0 rfl) rfl rfl ?_
  refine vg_iconst (pc := 1) (dK D_Mo_ad 1 rfl) ?_
  refine nmE h (fun S1 e_S1 h => ?_)
  refine vg_putI (pc := 2) (ci := 11) (f := 4) (z := 0) (dK D_Mo_ad 2 rfl) q_1446 hc0 (ltK rfl) (ltK rfl) rfl rfl e_S1 ?_
  refine g_aloadn (pc := 5) (i0 := 0) (j := 0) (dK D_Mo_ad 3 rfl) rfl rfl ?_
  refine g_aloadn (pc := 6) (i0 := 0) (j := 0) (dK D_Mo_ad 4 rfl) rfl rfl ?_
  refine g_iloadn (pc := 7) (i0 := 1) (j := 1) (dK D_Mo_ad 5 rfl) rfl rfl ?_
  refine bnE h (fun p2 e_p2 h => ?_)
  refine vg_cV (pc := 8) (As := [V a1]) (rest := [.ref c0]) (mc' := 0) (ms' := 0) (dK D_Mo_ad 6 rfl) K_Mo_122 (fitK rfl) (ltK rfl) hc0 rfl (leK rfl) (leK rfl) (leK rfl) (tf_Mo_isAd hc0 ha1 e_p2) (kcB ?_)
  refine vg_ifB_ne (pc := 11) (b := p2) (t := 18) (dK D_Mo_ad 7 rfl) rfl (fun hc3 => ?_) (fun hc3 => ?_)
  · replace h := ifP h hc3
    refine vg_iconst (pc := 18) (dK D_Mo_ad 10 rfl) ?_
    refine vg_iconst (pc := 19) (dK D_Mo_ad 11 rfl) ?_
    refine bnE h (fun p4 e_p4 h => ?_)
    refine vg_cV (pc := 20) (As := [V 0, V 1]) (rest := []) (mc' := 0) (ms' := 0) (dK D_Mo_ad 12 rfl) K_Mo_125 (fitK rfl) (ltK rfl) hc0 rfl (leK rfl) (leK rfl) (leK rfl) (tf_Mo_throwsIf hc0 (inRk rfl) (inRk rfl) e_p4) (kcB ?_)
    refine vg_ifB_eq (pc := 23) (b := p4.1) (t := 28) (dK D_Mo_ad 13 rfl) rfl (fun hc5 => ?_) (fun hc5 => ?_)
    · replace h := ifP h hc5
      refine vg_iconst (pc := 26) (dK D_Mo_ad 14 rfl) ?_
      exact vg_iretI (pc := 27) (r := 0) (dK D_Mo_ad 15 rfl) rfl (leK rfl) (leK rfl) (fun _ => rfl) (by obtain rfl := Option.some.inj h; exact ⟨rfl, (inRk rfl), rfl⟩)
    · replace h := ifN h hc5
      refine g_iloadn (pc := 28) (i0 := 2) (j := 2) (dK D_Mo_ad 16 rfl) rfl rfl ?_
      refine vg_i2l (pc := 29) (dK D_Mo_ad 17 rfl) ha2 ?_
      refine vg_lconst (pc := 30) (y := 0) (dK D_Mo_ad 18 rfl) rfl ?_
      refine vg_ldc2 (pc := 31) (y := 5) (dK D_Mo_ad 19 rfl) q_1672 rfl ?_
      refine bnE h (fun p6 e_p6 h => ?_)
      refine vg_cS (pc := 34) (As := [J a2, J 0, J 5]) (rest := []) (mc' := 0) (ms' := 0) (dK D_Mo_ad 20 rfl) K_Mo_67 (fitK rfl) rfl (leK rfl) (leK rfl) (leK rfl) (tf_Mo_inRange (inR_L ha2) (inLk rfl) (inLk rfl) e_p6) (kcB ?_)
      refine vg_ifB_eq (pc := 37) (b := p6) (t := 49) (dK D_Mo_ad 21 rfl) rfl (fun hc7 => ?_) (fun hc7 => ?_)
      · replace h := ifP h hc7
        refine g_aloadn (pc := 40) (i0 := 0) (j := 0) (dK D_Mo_ad 22 rfl) rfl rfl ?_
        refine g_iloadn (pc := 41) (i0 := 1) (j := 1) (dK D_Mo_ad 23 rfl) rfl rfl ?_
        refine g_iloadn (pc := 42) (i0 := 2) (j := 2) (dK D_Mo_ad 24 rfl) rfl rfl ?_
        refine bnE h (fun p14 e_p14 h => ?_)
        refine vg_cV (pc := 43) (As := [V a1, V a2]) (rest := []) (mc' := 0) (ms' := 0) (dK D_Mo_ad 25 rfl) K_Mo_82 (fitK rfl) (ltK rfl) hc0 rfl (leK rfl) (leK rfl) (leK rfl) (tf_Mo_ofAd hc0 ha1 ha2 e_p14) (kcI (fun h_p14 => ?_))
        refine g_goto (pc := 46) (tgt := 91) (dK D_Mo_ad 26 rfl) rfl ?_
        exact vg_iretI (pc := 91) (r := p14) (dK D_Mo_ad 48 rfl) rfl (leK rfl) (leK rfl) (fun _ => rfl) (by obtain rfl := Option.some.inj h; exact ⟨rfl, h_p14, rfl⟩)
      · replace h := ifN h hc7
        refine g_iloadn (pc := 49) (i0 := 2) (j := 2) (dK D_Mo_ad 27 rfl) rfl rfl ?_
        refine vg_bipush (pc := 50) (dK D_Mo_ad 28 rfl) rfl ?_
        refine vg_icmp_ne (pc := 52) (t := 68) (dK D_Mo_ad 29 rfl) rfl ha2 (inRk rfl) (fun hc13 => ?_) (fun hc13 => ?_)
        · replace h := ifN h hc13
          refine g_iloadn (pc := 68) (i0 := 2) (j := 2) (dK D_Mo_ad 36 rfl) rfl rfl ?_
          refine vg_bipush (pc := 69) (dK D_Mo_ad 37 rfl) rfl ?_
          refine vg_icmp_ne (pc := 71) (t := 90) (dK D_Mo_ad 38 rfl) rfl ha2 (inRk rfl) (fun hc10 => ?_) (fun hc10 => ?_)
          · replace h := ifN h hc10
            refine vg_iconst (pc := 90) (dK D_Mo_ad 47 rfl) ?_
            exact vg_iretI (pc := 91) (r := (-1)) (dK D_Mo_ad 48 rfl) rfl (leK rfl) (leK rfl) (fun _ => rfl) (by obtain rfl := Option.some.inj h; exact ⟨rfl, (inRk rfl), rfl⟩)
          · replace h := ifP h hc10
            refine g_aloadn (pc := 74) (i0 := 0) (j := 0) (dK D_Mo_ad 39 rfl) rfl rfl ?_
            refine g_iloadn (pc := 75) (i0 := 1) (j := 1) (dK D_Mo_ad 40 rfl) rfl rfl ?_
            refine bnE h (fun p8 e_p8 h => ?_)
            refine vg_cV (pc := 76) (As := [V a1]) (rest := []) (mc' := 0) (ms' := 0) (dK D_Mo_ad 41 rfl) K_Mo_173 (fitK rfl) (ltK rfl) hc0 rfl (leK rfl) (leK rfl) (leK rfl) (tf_Mo_isAdLate hc0 ha1 e_p8) (kcB ?_)
            refine vg_ifB_eq (pc := 79) (b := p8) (t := 86) (dK D_Mo_ad 42 rfl) rfl (fun hc9 => ?_) (fun hc9 => ?_)
            · replace h := ifP h hc9
              refine vg_iconst (pc := 82) (dK D_Mo_ad 43 rfl) ?_
              refine g_goto (pc := 83) (tgt := 91) (dK D_Mo_ad 44 rfl) rfl ?_
              exact vg_iretI (pc := 91) (r := 1) (dK D_Mo_ad 48 rfl) rfl (leK rfl) (leK rfl) (fun _ => rfl) (by obtain rfl := Option.some.inj h; exact ⟨rfl, (inRk rfl), rfl⟩)
            · replace h := ifN h hc9
              refine vg_iconst (pc := 86) (dK D_Mo_ad 45 rfl) ?_
              refine g_goto (pc := 87) (tgt := 91) (dK D_Mo_ad 46 rfl) rfl ?_
              exact vg_iretI (pc := 91) (r := 0) (dK D_Mo_ad 48 rfl) rfl (leK rfl) (leK rfl) (fun _ => rfl) (by obtain rfl := Option.some.inj h; exact ⟨rfl, (inRk rfl), rfl⟩)
        · replace h := ifP h hc13
          refine g_aloadn (pc := 55) (i0 := 0) (j := 0) (dK D_Mo_ad 30 rfl) rfl rfl ?_
          refine g_iloadn (pc := 56) (i0 := 1) (j := 1) (dK D_Mo_ad 31 rfl) rfl rfl ?_
          refine vg_bipush (pc := 57) (dK D_Mo_ad 32 rfl) rfl ?_
          refine bnE h (fun p11 e_p11 h => ?_)
          refine vg_cV (pc := 59) (As := [V a1, V 6]) (rest := []) (mc' := 0) (ms' := 0) (dK D_Mo_ad 33 rfl) K_Mo_82 (fitK rfl) (ltK rfl) hc0 rfl (leK rfl) (leK rfl) (leK rfl) (tf_Mo_ofAd hc0 ha1 (inRk rfl) e_p11) (kcI (fun h_p11 => ?_))
          refine bnE h (fun p12 e_p12 h => ?_)
          refine vg_cS (pc := 62) (As := [V p11]) (rest := []) (mc' := 0) (ms' := 0) (dK D_Mo_ad 34 rfl) K_Mo_170 (fitK rfl) rfl (leK rfl) (leK rfl) (leK rfl) (tf_Mo_toldPage h_p11 e_p12) (kcI (fun h_p12 => ?_))
          refine g_goto (pc := 65) (tgt := 91) (dK D_Mo_ad 35 rfl) rfl ?_
          exact vg_iretI (pc := 91) (r := p12) (dK D_Mo_ad 48 rfl) rfl (leK rfl) (leK rfl) (fun _ => rfl) (by obtain rfl := Option.some.inj h; exact ⟨rfl, h_p12, rfl⟩)
  · replace h := ifN h hc3
    refine vg_iconst (pc := 14) (dK D_Mo_ad 8 rfl) ?_
    refine g_goto (pc := 15) (tgt := 19) (dK D_Mo_ad 9 rfl) rfl ?_
    refine vg_iconst (pc := 19) (dK D_Mo_ad 11 rfl) ?_
    refine bnE h (fun p15 e_p15 h => ?_)
    refine vg_cV (pc := 20) (As := [V 1, V 1]) (rest := []) (mc' := 0) (ms' := 0) (dK D_Mo_ad 12 rfl) K_Mo_125 (fitK rfl) (ltK rfl) hc0 rfl (leK rfl) (leK rfl) (leK rfl) (tf_Mo_throwsIf hc0 (inRk rfl) (inRk rfl) e_p15) (kcB ?_)
    refine vg_ifB_eq (pc := 23) (b := p15.1) (t := 28) (dK D_Mo_ad 13 rfl) rfl (fun hc16 => ?_) (fun hc16 => ?_)
    · replace h := ifP h hc16
      refine vg_iconst (pc := 26) (dK D_Mo_ad 14 rfl) ?_
      exact vg_iretI (pc := 27) (r := 0) (dK D_Mo_ad 15 rfl) rfl (leK rfl) (leK rfl) (fun _ => rfl) (by obtain rfl := Option.some.inj h; exact ⟨rfl, (inRk rfl), rfl⟩)
    · replace h := ifN h hc16
      refine g_iloadn (pc := 28) (i0 := 2) (j := 2) (dK D_Mo_ad 16 rfl) rfl rfl ?_
      refine vg_i2l (pc := 29) (dK D_Mo_ad 17 rfl) ha2 ?_
      refine vg_lconst (pc := 30) (y := 0) (dK D_Mo_ad 18 rfl) rfl ?_
      refine vg_ldc2 (pc := 31) (y := 5) (dK D_Mo_ad 19 rfl) q_1672 rfl ?_
      refine bnE h (fun p17 e_p17 h => ?_)
      refine vg_cS (pc := 34) (As := [J a2, J 0, J 5]) (rest := []) (mc' := 0) (ms' := 0) (dK D_Mo_ad 20 rfl) K_Mo_67 (fitK rfl) rfl (leK rfl) (leK rfl) (leK rfl) (tf_Mo_inRange (inR_L ha2) (inLk rfl) (inLk rfl) e_p17) (kcB ?_)
      refine vg_ifB_eq (pc := 37) (b := p17) (t := 49) (dK D_Mo_ad 21 rfl) rfl (fun hc18 => ?_) (fun hc18 => ?_)
      · replace h := ifP h hc18
        refine g_aloadn (pc := 40) (i0 := 0) (j := 0) (dK D_Mo_ad 22 rfl) rfl rfl ?_
        refine g_iloadn (pc := 41) (i0 := 1) (j := 1) (dK D_Mo_ad 23 rfl) rfl rfl ?_
        refine g_iloadn (pc := 42) (i0 := 2) (j := 2) (dK D_Mo_ad 24 rfl) rfl rfl ?_
        refine bnE h (fun p25 e_p25 h => ?_)
        refine vg_cV (pc := 43) (As := [V a1, V a2]) (rest := []) (mc' := 0) (ms' := 0) (dK D_Mo_ad 25 rfl) K_Mo_82 (fitK rfl) (ltK rfl) hc0 rfl (leK rfl) (leK rfl) (leK rfl) (tf_Mo_ofAd hc0 ha1 ha2 e_p25) (kcI (fun h_p25 => ?_))
        refine g_goto (pc := 46) (tgt := 91) (dK D_Mo_ad 26 rfl) rfl ?_
        exact vg_iretI (pc := 91) (r := p25) (dK D_Mo_ad 48 rfl) rfl (leK rfl) (leK rfl) (fun _ => rfl) (by obtain rfl := Option.some.inj h; exact ⟨rfl, h_p25, rfl⟩)
      · replace h := ifN h hc18
        refine g_iloadn (pc := 49) (i0 := 2) (j := 2) (dK D_Mo_ad 27 rfl) rfl rfl ?_
        refine vg_bipush (pc := 50) (dK D_Mo_ad 28 rfl) rfl ?_
        refine vg_icmp_ne (pc := 52) (t := 68) (dK D_Mo_ad 29 rfl) rfl ha2 (inRk rfl) (fun hc24 => ?_) (fun hc24 => ?_)
        · replace h := ifN h hc24
          refine g_iloadn (pc := 68) (i0 := 2) (j := 2) (dK D_Mo_ad 36 rfl) rfl rfl ?_
          refine vg_bipush (pc := 69) (dK D_Mo_ad 37 rfl) rfl ?_
          refine vg_icmp_ne (pc := 71) (t := 90) (dK D_Mo_ad 38 rfl) rfl ha2 (inRk rfl) (fun hc21 => ?_) (fun hc21 => ?_)
          · replace h := ifN h hc21
            refine vg_iconst (pc := 90) (dK D_Mo_ad 47 rfl) ?_
            exact vg_iretI (pc := 91) (r := (-1)) (dK D_Mo_ad 48 rfl) rfl (leK rfl) (leK rfl) (fun _ => rfl) (by obtain rfl := Option.some.inj h; exact ⟨rfl, (inRk rfl), rfl⟩)
          · replace h := ifP h hc21
            refine g_aloadn (pc := 74) (i0 := 0) (j := 0) (dK D_Mo_ad 39 rfl) rfl rfl ?_
            refine g_iloadn (pc := 75) (i0 := 1) (j := 1) (dK D_Mo_ad 40 rfl) rfl rfl ?_
            refine bnE h (fun p19 e_p19 h => ?_)
            refine vg_cV (pc := 76) (As := [V a1]) (rest := []) (mc' := 0) (ms' := 0) (dK D_Mo_ad 41 rfl) K_Mo_173 (fitK rfl) (ltK rfl) hc0 rfl (leK rfl) (leK rfl) (leK rfl) (tf_Mo_isAdLate hc0 ha1 e_p19) (kcB ?_)
            refine vg_ifB_eq (pc := 79) (b := p19) (t := 86) (dK D_Mo_ad 42 rfl) rfl (fun hc20 => ?_) (fun hc20 => ?_)
            · replace h := ifP h hc20
              refine vg_iconst (pc := 82) (dK D_Mo_ad 43 rfl) ?_
              refine g_goto (pc := 83) (tgt := 91) (dK D_Mo_ad 44 rfl) rfl ?_
              exact vg_iretI (pc := 91) (r := 1) (dK D_Mo_ad 48 rfl) rfl (leK rfl) (leK rfl) (fun _ => rfl) (by obtain rfl := Option.some.inj h; exact ⟨rfl, (inRk rfl), rfl⟩)
            · replace h := ifN h hc20
              refine vg_iconst (pc := 86) (dK D_Mo_ad 45 rfl) ?_
              refine g_goto (pc := 87) (tgt := 91) (dK D_Mo_ad 46 rfl) rfl ?_
              exact vg_iretI (pc := 91) (r := 0) (dK D_Mo_ad 48 rfl) rfl (leK rfl) (leK rfl) (fun _ => rfl) (by obtain rfl := Option.some.inj h; exact ⟨rfl, (inRk rfl), rfl⟩)
        · replace h := ifP h hc24
          refine g_aloadn (pc := 55) (i0 := 0) (j := 0) (dK D_Mo_ad 30 rfl) rfl rfl ?_
          refine g_iloadn (pc := 56) (i0 := 1) (j := 1) (dK D_Mo_ad 31 rfl) rfl rfl ?_
          refine vg_bipush (pc := 57) (dK D_Mo_ad 32 rfl) rfl ?_
          refine bnE h (fun p22 e_p22 h => ?_)
          refine vg_cV (pc := 59) (As := [V a1, V 6]) (rest := []) (mc' := 0) (ms' := 0) (dK D_Mo_ad 33 rfl) K_Mo_82 (fitK rfl) (ltK rfl) hc0 rfl (leK rfl) (leK rfl) (leK rfl) (tf_Mo_ofAd hc0 ha1 (inRk rfl) e_p22) (kcI (fun h_p22 => ?_))
          refine bnE h (fun p23 e_p23 h => ?_)
          refine vg_cS (pc := 62) (As := [V p22]) (rest := []) (mc' := 0) (ms' := 0) (dK D_Mo_ad 34 rfl) K_Mo_170 (fitK rfl) rfl (leK rfl) (leK rfl) (leK rfl) (tf_Mo_toldPage h_p22 e_p23) (kcI (fun h_p23 => ?_))
          refine g_goto (pc := 65) (tgt := 91) (dK D_Mo_ad 35 rfl) rfl ?_
          exact vg_iretI (pc := 91) (r := p23) (dK D_Mo_ad 48 rfl) rfl (leK rfl) (leK rfl) (fun _ => rfl) (by obtain rfl := Option.some.inj h; exact ⟨rfl, h_p23, rfl⟩)
def fn_Mo_isStoryLate (c0 : Nat) (a1 : Int) (S : St) : Option (Bool) := bnO (fn_Mo_ofStory c0 a1 3 S) fun p1 => if p1 ≤ (g S (tgt c0 0) 0) then (some false) else (some true)
theorem tf_Mo_isStoryLate {E : EV} {X : XT} {c0 : Nat} (hc0 : HC X 11 c0) {a1 : Int} (ha1 : inR a1) {S : St} {q : Bool} (h : fn_Mo_isStoryLate c0 a1 S = some q) : Ev E M_Mo_isStoryLate [.ref c0, V a1] (WX X S) 0 0 (KB X q S) := by
  refine Ev.of pn_Mo rfl (leK rfl) ?_
  show Go E M_Mo_isStoryLate 0 0 0 [(0, .ref c0), (1, V a1)] [] (WX X S) 0 0 (KB X q S)
  unfold fn_Mo_isStoryLate at h
  refine g_aloadn (pc := 0) (i0 := 0) (j := 0) (dK D_Mo_isStoryLate 0 rfl) rfl rfl ?_
  refine vg_getA (pc := 1) (ci := 11) (f := 0) (dK D_Mo_isStoryLate 1 rfl) q_1442 hc0 (ltK rfl) (ltK rfl) rfl ?_
  refine vg_iconst (pc := 4) (dK D_Mo_isStoryLate 2 rfl) ?_
  refine vg_iaload (pc := 5) (j := 0) (dK D_Mo_isStoryLate 3 rfl) (hw_11_0 hc0) rfl ⟨by decide, by decide⟩ rfl ?_
  refine g_aloadn (pc := 6) (i0 := 0) (j := 0) (dK D_Mo_isStoryLate 4 rfl) rfl rfl ?_
  refine g_iloadn (pc := 7) (i0 := 1) (j := 1) (dK D_Mo_isStoryLate 5 rfl) rfl rfl ?_
  refine vg_iconst (pc := 8) (dK D_Mo_isStoryLate 6 rfl) ?_
  refine bnE h (fun p1 e_p1 h => ?_)
  refine vg_cV (pc := 9) (As := [V a1, V 3]) (rest := [V (g S (tgt c0 0) 0)]) (mc' := 0) (ms' := 0) (dK D_Mo_isStoryLate 7 rfl) K_Mo_85 (fitK rfl) (ltK rfl) hc0 rfl (leK rfl) (leK rfl) (leK rfl) (tf_Mo_ofStory hc0 ha1 (inRk rfl) e_p1) (kcI (fun h_p1 => ?_))
  refine vg_icmp_ge (pc := 12) (t := 19) (dK D_Mo_isStoryLate 8 rfl) rfl (g_in _ _ _) h_p1 (fun hc2 => ?_) (fun hc2 => ?_)
  · replace h := ifP h hc2
    refine vg_iconst (pc := 19) (dK D_Mo_isStoryLate 11 rfl) ?_
    exact vg_iretB (pc := 20) (b := false) (dK D_Mo_isStoryLate 12 rfl) rfl (leK rfl) (leK rfl) (fun _ => rfl) (by obtain rfl := Option.some.inj h; exact ⟨rfl, rfl⟩)
  · replace h := ifN h hc2
    refine vg_iconst (pc := 15) (dK D_Mo_isStoryLate 9 rfl) ?_
    refine g_goto (pc := 16) (tgt := 20) (dK D_Mo_isStoryLate 10 rfl) rfl ?_
    exact vg_iretB (pc := 20) (b := true) (dK D_Mo_isStoryLate 12 rfl) rfl (leK rfl) (leK rfl) (fun _ => rfl) (by obtain rfl := Option.some.inj h; exact ⟨rfl, rfl⟩)
def fn_Mo_story (c0 : Nat) (a1 : Int) (a2 : Int) (S : St) : Option (Int × St) := nm (u S c0 4 0) fun S1 => bnO (fn_Mo_isStory c0 a1 S1) fun p2 => if p2 = true then (bnO (fn_Mo_throwsIf c0 0 1 S1) fun p4 => if p4.1 = true then (some (0, p4.2)) else (bnO (fn_Mo_inRange a2 0 3 p4.2) fun p6 => if p6 = true then (bnO (fn_Mo_ofStory c0 a1 a2 p4.2) fun p14 => some (p14, p4.2)) else (if a2 = 4 then (bnO (fn_Mo_ofStory c0 a1 4 p4.2) fun p11 => bnO (fn_Mo_toldPage p11 p4.2) fun p12 => some (p12, p4.2)) else (if a2 = 5 then (bnO (fn_Mo_isStoryLate c0 a1 p4.2) fun p8 => if p8 = true then (some (1, p4.2)) else (some (0, p4.2))) else (some ((-1), p4.2)))))) else (bnO (fn_Mo_throwsIf c0 1 1 S1) fun p15 => if p15.1 = true then (some (0, p15.2)) else (bnO (fn_Mo_inRange a2 0 3 p15.2) fun p17 => if p17 = true then (bnO (fn_Mo_ofStory c0 a1 a2 p15.2) fun p25 => some (p25, p15.2)) else (if a2 = 4 then (bnO (fn_Mo_ofStory c0 a1 4 p15.2) fun p22 => bnO (fn_Mo_toldPage p22 p15.2) fun p23 => some (p23, p15.2)) else (if a2 = 5 then (bnO (fn_Mo_isStoryLate c0 a1 p15.2) fun p19 => if p19 = true then (some (1, p15.2)) else (some (0, p15.2))) else (some ((-1), p15.2))))))
theorem tf_Mo_story {E : EV} {X : XT} {c0 : Nat} (hc0 : HC X 11 c0) {a1 : Int} (ha1 : inR a1) {a2 : Int} (ha2 : inR a2) {S : St} {q : Int × St} (h : fn_Mo_story c0 a1 a2 S = some q) : Ev E M_Mo_story [.ref c0, V a1, V a2] (WX X S) 0 0 (KI X q.1 q.2) := by
  refine Ev.of pn_Mo rfl (leK rfl) ?_
  show Go E M_Mo_story 0 0 0 [(0, .ref c0), (1, V a1), (2, V a2)] [] (WX X S) 0 0 (KI X q.1 q.2)
  unfold fn_Mo_story at h
  refine g_aloadn (pc := 0) (i0 := 0) (j := 0) (dK D_Mo_story 0 rfl) rfl rfl ?_
  refine vg_iconst (pc := 1) (dK D_Mo_story 1 rfl) ?_
  refine nmE h (fun S1 e_S1 h => ?_)
  refine vg_putI (pc := 2) (ci := 11) (f := 4) (z := 0) (dK D_Mo_story 2 rfl) q_1446 hc0 (ltK rfl) (ltK rfl) rfl rfl e_S1 ?_
  refine g_aloadn (pc := 5) (i0 := 0) (j := 0) (dK D_Mo_story 3 rfl) rfl rfl ?_
  refine g_aloadn (pc := 6) (i0 := 0) (j := 0) (dK D_Mo_story 4 rfl) rfl rfl ?_
  refine g_iloadn (pc := 7) (i0 := 1) (j := 1) (dK D_Mo_story 5 rfl) rfl rfl ?_
  refine bnE h (fun p2 e_p2 h => ?_)
  refine vg_cV (pc := 8) (As := [V a1]) (rest := [.ref c0]) (mc' := 0) (ms' := 0) (dK D_Mo_story 6 rfl) K_Mo_132 (fitK rfl) (ltK rfl) hc0 rfl (leK rfl) (leK rfl) (leK rfl) (tf_Mo_isStory hc0 ha1 e_p2) (kcB ?_)
  refine vg_ifB_ne (pc := 11) (b := p2) (t := 18) (dK D_Mo_story 7 rfl) rfl (fun hc3 => ?_) (fun hc3 => ?_)
  · replace h := ifP h hc3
    refine vg_iconst (pc := 18) (dK D_Mo_story 10 rfl) ?_
    refine vg_iconst (pc := 19) (dK D_Mo_story 11 rfl) ?_
    refine bnE h (fun p4 e_p4 h => ?_)
    refine vg_cV (pc := 20) (As := [V 0, V 1]) (rest := []) (mc' := 0) (ms' := 0) (dK D_Mo_story 12 rfl) K_Mo_125 (fitK rfl) (ltK rfl) hc0 rfl (leK rfl) (leK rfl) (leK rfl) (tf_Mo_throwsIf hc0 (inRk rfl) (inRk rfl) e_p4) (kcB ?_)
    refine vg_ifB_eq (pc := 23) (b := p4.1) (t := 28) (dK D_Mo_story 13 rfl) rfl (fun hc5 => ?_) (fun hc5 => ?_)
    · replace h := ifP h hc5
      refine vg_iconst (pc := 26) (dK D_Mo_story 14 rfl) ?_
      exact vg_iretI (pc := 27) (r := 0) (dK D_Mo_story 15 rfl) rfl (leK rfl) (leK rfl) (fun _ => rfl) (by obtain rfl := Option.some.inj h; exact ⟨rfl, (inRk rfl), rfl⟩)
    · replace h := ifN h hc5
      refine g_iloadn (pc := 28) (i0 := 2) (j := 2) (dK D_Mo_story 16 rfl) rfl rfl ?_
      refine vg_i2l (pc := 29) (dK D_Mo_story 17 rfl) ha2 ?_
      refine vg_lconst (pc := 30) (y := 0) (dK D_Mo_story 18 rfl) rfl ?_
      refine vg_ldc2 (pc := 31) (y := 3) (dK D_Mo_story 19 rfl) q_1684 rfl ?_
      refine bnE h (fun p6 e_p6 h => ?_)
      refine vg_cS (pc := 34) (As := [J a2, J 0, J 3]) (rest := []) (mc' := 0) (ms' := 0) (dK D_Mo_story 20 rfl) K_Mo_67 (fitK rfl) rfl (leK rfl) (leK rfl) (leK rfl) (tf_Mo_inRange (inR_L ha2) (inLk rfl) (inLk rfl) e_p6) (kcB ?_)
      refine vg_ifB_eq (pc := 37) (b := p6) (t := 49) (dK D_Mo_story 21 rfl) rfl (fun hc7 => ?_) (fun hc7 => ?_)
      · replace h := ifP h hc7
        refine g_aloadn (pc := 40) (i0 := 0) (j := 0) (dK D_Mo_story 22 rfl) rfl rfl ?_
        refine g_iloadn (pc := 41) (i0 := 1) (j := 1) (dK D_Mo_story 23 rfl) rfl rfl ?_
        refine g_iloadn (pc := 42) (i0 := 2) (j := 2) (dK D_Mo_story 24 rfl) rfl rfl ?_
        refine bnE h (fun p14 e_p14 h => ?_)
        refine vg_cV (pc := 43) (As := [V a1, V a2]) (rest := []) (mc' := 0) (ms' := 0) (dK D_Mo_story 25 rfl) K_Mo_85 (fitK rfl) (ltK rfl) hc0 rfl (leK rfl) (leK rfl) (leK rfl) (tf_Mo_ofStory hc0 ha1 ha2 e_p14) (kcI (fun h_p14 => ?_))
        refine g_goto (pc := 46) (tgt := 88) (dK D_Mo_story 26 rfl) rfl ?_
        exact vg_iretI (pc := 88) (r := p14) (dK D_Mo_story 48 rfl) rfl (leK rfl) (leK rfl) (fun _ => rfl) (by obtain rfl := Option.some.inj h; exact ⟨rfl, h_p14, rfl⟩)
      · replace h := ifN h hc7
        refine g_iloadn (pc := 49) (i0 := 2) (j := 2) (dK D_Mo_story 27 rfl) rfl rfl ?_
        refine vg_iconst (pc := 50) (dK D_Mo_story 28 rfl) ?_
        refine vg_icmp_ne (pc := 51) (t := 66) (dK D_Mo_story 29 rfl) rfl ha2 (inRk rfl) (fun hc13 => ?_) (fun hc13 => ?_)
        · replace h := ifN h hc13
          refine g_iloadn (pc := 66) (i0 := 2) (j := 2) (dK D_Mo_story 36 rfl) rfl rfl ?_
          refine vg_iconst (pc := 67) (dK D_Mo_story 37 rfl) ?_
          refine vg_icmp_ne (pc := 68) (t := 87) (dK D_Mo_story 38 rfl) rfl ha2 (inRk rfl) (fun hc10 => ?_) (fun hc10 => ?_)
          · replace h := ifN h hc10
            refine vg_iconst (pc := 87) (dK D_Mo_story 47 rfl) ?_
            exact vg_iretI (pc := 88) (r := (-1)) (dK D_Mo_story 48 rfl) rfl (leK rfl) (leK rfl) (fun _ => rfl) (by obtain rfl := Option.some.inj h; exact ⟨rfl, (inRk rfl), rfl⟩)
          · replace h := ifP h hc10
            refine g_aloadn (pc := 71) (i0 := 0) (j := 0) (dK D_Mo_story 39 rfl) rfl rfl ?_
            refine g_iloadn (pc := 72) (i0 := 1) (j := 1) (dK D_Mo_story 40 rfl) rfl rfl ?_
            refine bnE h (fun p8 e_p8 h => ?_)
            refine vg_cV (pc := 73) (As := [V a1]) (rest := []) (mc' := 0) (ms' := 0) (dK D_Mo_story 41 rfl) K_Mo_178 (fitK rfl) (ltK rfl) hc0 rfl (leK rfl) (leK rfl) (leK rfl) (tf_Mo_isStoryLate hc0 ha1 e_p8) (kcB ?_)
            refine vg_ifB_eq (pc := 76) (b := p8) (t := 83) (dK D_Mo_story 42 rfl) rfl (fun hc9 => ?_) (fun hc9 => ?_)
            · replace h := ifP h hc9
              refine vg_iconst (pc := 79) (dK D_Mo_story 43 rfl) ?_
              refine g_goto (pc := 80) (tgt := 88) (dK D_Mo_story 44 rfl) rfl ?_
              exact vg_iretI (pc := 88) (r := 1) (dK D_Mo_story 48 rfl) rfl (leK rfl) (leK rfl) (fun _ => rfl) (by obtain rfl := Option.some.inj h; exact ⟨rfl, (inRk rfl), rfl⟩)
            · replace h := ifN h hc9
              refine vg_iconst (pc := 83) (dK D_Mo_story 45 rfl) ?_
              refine g_goto (pc := 84) (tgt := 88) (dK D_Mo_story 46 rfl) rfl ?_
              exact vg_iretI (pc := 88) (r := 0) (dK D_Mo_story 48 rfl) rfl (leK rfl) (leK rfl) (fun _ => rfl) (by obtain rfl := Option.some.inj h; exact ⟨rfl, (inRk rfl), rfl⟩)
        · replace h := ifP h hc13
          refine g_aloadn (pc := 54) (i0 := 0) (j := 0) (dK D_Mo_story 30 rfl) rfl rfl ?_
          refine g_iloadn (pc := 55) (i0 := 1) (j := 1) (dK D_Mo_story 31 rfl) rfl rfl ?_
          refine vg_iconst (pc := 56) (dK D_Mo_story 32 rfl) ?_
          refine bnE h (fun p11 e_p11 h => ?_)
          refine vg_cV (pc := 57) (As := [V a1, V 4]) (rest := []) (mc' := 0) (ms' := 0) (dK D_Mo_story 33 rfl) K_Mo_85 (fitK rfl) (ltK rfl) hc0 rfl (leK rfl) (leK rfl) (leK rfl) (tf_Mo_ofStory hc0 ha1 (inRk rfl) e_p11) (kcI (fun h_p11 => ?_))
          refine bnE h (fun p12 e_p12 h => ?_)
          refine vg_cS (pc := 60) (As := [V p11]) (rest := []) (mc' := 0) (ms' := 0) (dK D_Mo_story 34 rfl) K_Mo_170 (fitK rfl) rfl (leK rfl) (leK rfl) (leK rfl) (tf_Mo_toldPage h_p11 e_p12) (kcI (fun h_p12 => ?_))
          refine g_goto (pc := 63) (tgt := 88) (dK D_Mo_story 35 rfl) rfl ?_
          exact vg_iretI (pc := 88) (r := p12) (dK D_Mo_story 48 rfl) rfl (leK rfl) (leK rfl) (fun _ => rfl) (by obtain rfl := Option.some.inj h; exact ⟨rfl, h_p12, rfl⟩)
  · replace h := ifN h hc3
    refine vg_iconst (pc := 14) (dK D_Mo_story 8 rfl) ?_
    refine g_goto (pc := 15) (tgt := 19) (dK D_Mo_story 9 rfl) rfl ?_
    refine vg_iconst (pc := 19) (dK D_Mo_story 11 rfl) ?_
    refine bnE h (fun p15 e_p15 h => ?_)
    refine vg_cV (pc := 20) (As := [V 1, V 1]) (rest := []) (mc' := 0) (ms' := 0) (dK D_Mo_story 12 rfl) K_Mo_125 (fitK rfl) (ltK rfl) hc0 rfl (leK rfl) (leK rfl) (leK rfl) (tf_Mo_throwsIf hc0 (inRk rfl) (inRk rfl) e_p15) (kcB ?_)
    refine vg_ifB_eq (pc := 23) (b := p15.1) (t := 28) (dK D_Mo_story 13 rfl) rfl (fun hc16 => ?_) (fun hc16 => ?_)
    · replace h := ifP h hc16
      refine vg_iconst (pc := 26) (dK D_Mo_story 14 rfl) ?_
      exact vg_iretI (pc := 27) (r := 0) (dK D_Mo_story 15 rfl) rfl (leK rfl) (leK rfl) (fun _ => rfl) (by obtain rfl := Option.some.inj h; exact ⟨rfl, (inRk rfl), rfl⟩)
    · replace h := ifN h hc16
      refine g_iloadn (pc := 28) (i0 := 2) (j := 2) (dK D_Mo_story 16 rfl) rfl rfl ?_
      refine vg_i2l (pc := 29) (dK D_Mo_story 17 rfl) ha2 ?_
      refine vg_lconst (pc := 30) (y := 0) (dK D_Mo_story 18 rfl) rfl ?_
      refine vg_ldc2 (pc := 31) (y := 3) (dK D_Mo_story 19 rfl) q_1684 rfl ?_
      refine bnE h (fun p17 e_p17 h => ?_)
      refine vg_cS (pc := 34) (As := [J a2, J 0, J 3]) (rest := []) (mc' := 0) (ms' := 0) (dK D_Mo_story 20 rfl) K_Mo_67 (fitK rfl) rfl (leK rfl) (leK rfl) (leK rfl) (tf_Mo_inRange (inR_L ha2) (inLk rfl) (inLk rfl) e_p17) (kcB ?_)
      refine vg_ifB_eq (pc := 37) (b := p17) (t := 49) (dK D_Mo_story 21 rfl) rfl (fun hc18 => ?_) (fun hc18 => ?_)
      · replace h := ifP h hc18
        refine g_aloadn (pc := 40) (i0 := 0) (j := 0) (dK D_Mo_story 22 rfl) rfl rfl ?_
        refine g_iloadn (pc := 41) (i0 := 1) (j := 1) (dK D_Mo_story 23 rfl) rfl rfl ?_
        refine g_iloadn (pc := 42) (i0 := 2) (j := 2) (dK D_Mo_story 24 rfl) rfl rfl ?_
        refine bnE h (fun p25 e_p25 h => ?_)
        refine vg_cV (pc := 43) (As := [V a1, V a2]) (rest := []) (mc' := 0) (ms' := 0) (dK D_Mo_story 25 rfl) K_Mo_85 (fitK rfl) (ltK rfl) hc0 rfl (leK rfl) (leK rfl) (leK rfl) (tf_Mo_ofStory hc0 ha1 ha2 e_p25) (kcI (fun h_p25 => ?_))
        refine g_goto (pc := 46) (tgt := 88) (dK D_Mo_story 26 rfl) rfl ?_
        exact vg_iretI (pc := 88) (r := p25) (dK D_Mo_story 48 rfl) rfl (leK rfl) (leK rfl) (fun _ => rfl) (by obtain rfl := Option.some.inj h; exact ⟨rfl, h_p25, rfl⟩)
      · replace h := ifN h hc18
        refine g_iloadn (pc := 49) (i0 := 2) (j := 2) (dK D_Mo_story 27 rfl) rfl rfl ?_
        refine vg_iconst (pc := 50) (dK D_Mo_story 28 rfl) ?_
        refine vg_icmp_ne (pc := 51) (t := 66) (dK D_Mo_story 29 rfl) rfl ha2 (inRk rfl) (fun hc24 => ?_) (fun hc24 => ?_)
        · replace h := ifN h hc24
          refine g_iloadn (pc := 66) (i0 := 2) (j := 2) (dK D_Mo_story 36 rfl) rfl rfl ?_
          refine vg_iconst (pc := 67) (dK D_Mo_story 37 rfl) ?_
          refine vg_icmp_ne (pc := 68) (t := 87) (dK D_Mo_story 38 rfl) rfl ha2 (inRk rfl) (fun hc21 => ?_) (fun hc21 => ?_)
          · replace h := ifN h hc21
            refine vg_iconst (pc := 87) (dK D_Mo_story 47 rfl) ?_
            exact vg_iretI (pc := 88) (r := (-1)) (dK D_Mo_story 48 rfl) rfl (leK rfl) (leK rfl) (fun _ => rfl) (by obtain rfl := Option.some.inj h; exact ⟨rfl, (inRk rfl), rfl⟩)
          · replace h := ifP h hc21
            refine g_aloadn (pc := 71) (i0 := 0) (j := 0) (dK D_Mo_story 39 rfl) rfl rfl ?_
            refine g_iloadn (pc := 72) (i0 := 1) (j := 1) (dK D_Mo_story 40 rfl) rfl rfl ?_
            refine bnE h (fun p19 e_p19 h => ?_)
            refine vg_cV (pc := 73) (As := [V a1]) (rest := []) (mc' := 0) (ms' := 0) (dK D_Mo_story 41 rfl) K_Mo_178 (fitK rfl) (ltK rfl) hc0 rfl (leK rfl) (leK rfl) (leK rfl) (tf_Mo_isStoryLate hc0 ha1 e_p19) (kcB ?_)
            refine vg_ifB_eq (pc := 76) (b := p19) (t := 83) (dK D_Mo_story 42 rfl) rfl (fun hc20 => ?_) (fun hc20 => ?_)
            · replace h := ifP h hc20
              refine vg_iconst (pc := 79) (dK D_Mo_story 43 rfl) ?_
              refine g_goto (pc := 80) (tgt := 88) (dK D_Mo_story 44 rfl) rfl ?_
              exact vg_iretI (pc := 88) (r := 1) (dK D_Mo_story 48 rfl) rfl (leK rfl) (leK rfl) (fun _ => rfl) (by obtain rfl := Option.some.inj h; exact ⟨rfl, (inRk rfl), rfl⟩)
            · replace h := ifN h hc20
              refine vg_iconst (pc := 83) (dK D_Mo_story 45 rfl) ?_
              refine g_goto (pc := 84) (tgt := 88) (dK D_Mo_story 46 rfl) rfl ?_
              exact vg_iretI (pc := 88) (r := 0) (dK D_Mo_story 48 rfl) rfl (leK rfl) (leK rfl) (fun _ => rfl) (by obtain rfl := Option.some.inj h; exact ⟨rfl, (inRk rfl), rfl⟩)
        · replace h := ifP h hc24
          refine g_aloadn (pc := 54) (i0 := 0) (j := 0) (dK D_Mo_story 30 rfl) rfl rfl ?_
          refine g_iloadn (pc := 55) (i0 := 1) (j := 1) (dK D_Mo_story 31 rfl) rfl rfl ?_
          refine vg_iconst (pc := 56) (dK D_Mo_story 32 rfl) ?_
          refine bnE h (fun p22 e_p22 h => ?_)
          refine vg_cV (pc := 57) (As := [V a1, V 4]) (rest := []) (mc' := 0) (ms' := 0) (dK D_Mo_story 33 rfl) K_Mo_85 (fitK rfl) (ltK rfl) hc0 rfl (leK rfl) (leK rfl) (leK rfl) (tf_Mo_ofStory hc0 ha1 (inRk rfl) e_p22) (kcI (fun h_p22 => ?_))
          refine bnE h (fun p23 e_p23 h => ?_)
          refine vg_cS (pc := 60) (As := [V p22]) (rest := []) (mc' := 0) (ms' := 0) (dK D_Mo_story 34 rfl) K_Mo_170 (fitK rfl) rfl (leK rfl) (leK rfl) (leK rfl) (tf_Mo_toldPage h_p22 e_p23) (kcI (fun h_p23 => ?_))
          refine g_goto (pc := 63) (tgt := 88) (dK D_Mo_story 35 rfl) rfl ?_
          exact vg_iretI (pc := 88) (r := p23) (dK D_Mo_story 48 rfl) rfl (leK rfl) (leK rfl) (fun _ => rfl) (by obtain rfl := Option.some.inj h; exact ⟨rfl, h_p23, rfl⟩)
def fn_Mo_isStandby (c0 : Nat) (a1 : Int) (S : St) : Option (Bool) := nm (wr ((g S (tgt c0 0) 3) - 1)) fun v1 => bnO (fn_Mo_inRange a1 0 v1 S) fun p2 => some p2
theorem tf_Mo_isStandby {E : EV} {X : XT} {c0 : Nat} (hc0 : HC X 11 c0) {a1 : Int} (ha1 : inR a1) {S : St} {q : Bool} (h : fn_Mo_isStandby c0 a1 S = some q) : Ev E M_Mo_isStandby [.ref c0, V a1] (WX X S) 0 0 (KB X q S) := by
  refine Ev.of pn_Mo rfl (leK rfl) ?_
  show Go E M_Mo_isStandby 0 0 0 [(0, .ref c0), (1, V a1)] [] (WX X S) 0 0 (KB X q S)
  unfold fn_Mo_isStandby at h
  refine g_iloadn (pc := 0) (i0 := 1) (j := 1) (dK D_Mo_isStandby 0 rfl) rfl rfl ?_
  refine vg_i2l (pc := 1) (dK D_Mo_isStandby 1 rfl) ha1 ?_
  refine vg_lconst (pc := 2) (y := 0) (dK D_Mo_isStandby 2 rfl) rfl ?_
  refine g_aloadn (pc := 3) (i0 := 0) (j := 0) (dK D_Mo_isStandby 3 rfl) rfl rfl ?_
  refine vg_getA (pc := 4) (ci := 11) (f := 0) (dK D_Mo_isStandby 4 rfl) q_1442 hc0 (ltK rfl) (ltK rfl) rfl ?_
  refine vg_iconst (pc := 7) (dK D_Mo_isStandby 5 rfl) ?_
  refine vg_iaload (pc := 8) (j := 3) (dK D_Mo_isStandby 6 rfl) (hw_11_0 hc0) rfl ⟨by decide, by decide⟩ rfl ?_
  refine vg_iconst (pc := 9) (dK D_Mo_isStandby 7 rfl) ?_
  refine vg_isub (pc := 10) (dK D_Mo_isStandby 8 rfl) ?_
  refine nmE h (fun v1 e_v1 h => ?_)
  refine gtop e_v1 ?_
  refine vg_i2l (pc := 11) (dK D_Mo_isStandby 9 rfl) (Vn_in e_v1) ?_
  refine bnE h (fun p2 e_p2 h => ?_)
  refine vg_cS (pc := 12) (As := [J a1, J 0, J v1]) (rest := []) (mc' := 0) (ms' := 0) (dK D_Mo_isStandby 10 rfl) K_Mo_67 (fitK rfl) rfl (leK rfl) (leK rfl) (leK rfl) (tf_Mo_inRange (inR_L ha1) (inLk rfl) (inR_L (Vn_in e_v1)) e_p2) (kcB ?_)
  exact vg_iretB (pc := 15) (b := p2) (dK D_Mo_isStandby 11 rfl) rfl (leK rfl) (leK rfl) (fun _ => rfl) (by obtain rfl := Option.some.inj h; exact ⟨rfl, rfl⟩)
def fn_Mo_standby (c0 : Nat) (a1 : Int) (a2 : Int) (S : St) : Option (Int × St) := nm (u S c0 4 0) fun S1 => bnO (fn_Mo_isStandby c0 a1 S1) fun p2 => if p2 = true then (bnO (fn_Mo_throwsIf c0 0 1 S1) fun p4 => if p4.1 = true then (some (0, p4.2)) else (if a2 = 0 then (bnO (fn_Mo_ofStandby c0 a1 0 p4.2) fun p9 => some (p9, p4.2)) else (if a2 = 1 then (bnO (fn_Mo_ofStandby c0 a1 1 p4.2) fun p6 => bnO (fn_Mo_toldPage p6 p4.2) fun p7 => some (p7, p4.2)) else (some ((-1), p4.2))))) else (bnO (fn_Mo_throwsIf c0 1 1 S1) fun p11 => if p11.1 = true then (some (0, p11.2)) else (if a2 = 0 then (bnO (fn_Mo_ofStandby c0 a1 0 p11.2) fun p16 => some (p16, p11.2)) else (if a2 = 1 then (bnO (fn_Mo_ofStandby c0 a1 1 p11.2) fun p13 => bnO (fn_Mo_toldPage p13 p11.2) fun p14 => some (p14, p11.2)) else (some ((-1), p11.2)))))
theorem tf_Mo_standby {E : EV} {X : XT} {c0 : Nat} (hc0 : HC X 11 c0) {a1 : Int} (ha1 : inR a1) {a2 : Int} (ha2 : inR a2) {S : St} {q : Int × St} (h : fn_Mo_standby c0 a1 a2 S = some q) : Ev E M_Mo_standby [.ref c0, V a1, V a2] (WX X S) 0 0 (KI X q.1 q.2) := by
  refine Ev.of pn_Mo rfl (leK rfl) ?_
  show Go E M_Mo_standby 0 0 0 [(0, .ref c0), (1, V a1), (2, V a2)] [] (WX X S) 0 0 (KI X q.1 q.2)
  unfold fn_Mo_standby at h
  refine g_aloadn (pc := 0) (i0 := 0) (j := 0) (dK D_Mo_standby 0 rfl) rfl rfl ?_
  refine vg_iconst (pc := 1) (dK D_Mo_standby 1 rfl) ?_
  refine nmE h (fun S1 e_S1 h => ?_)
  refine vg_putI (pc := 2) (ci := 11) (f := 4) (z := 0) (dK D_Mo_standby 2 rfl) q_1446 hc0 (ltK rfl) (ltK rfl) rfl rfl e_S1 ?_
  refine g_aloadn (pc := 5) (i0 := 0) (j := 0) (dK D_Mo_standby 3 rfl) rfl rfl ?_
  refine g_aloadn (pc := 6) (i0 := 0) (j := 0) (dK D_Mo_standby 4 rfl) rfl rfl ?_
  refine g_iloadn (pc := 7) (i0 := 1) (j := 1) (dK D_Mo_standby 5 rfl) rfl rfl ?_
  refine bnE h (fun p2 e_p2 h => ?_)
  refine vg_cV (pc := 8) (As := [V a1]) (rest := [.ref c0]) (mc' := 0) (ms' := 0) (dK D_Mo_standby 6 rfl) K_Mo_181 (fitK rfl) (ltK rfl) hc0 rfl (leK rfl) (leK rfl) (leK rfl) (tf_Mo_isStandby hc0 ha1 e_p2) (kcB ?_)
  refine vg_ifB_ne (pc := 11) (b := p2) (t := 18) (dK D_Mo_standby 7 rfl) rfl (fun hc3 => ?_) (fun hc3 => ?_)
  · replace h := ifP h hc3
    refine vg_iconst (pc := 18) (dK D_Mo_standby 10 rfl) ?_
    refine vg_iconst (pc := 19) (dK D_Mo_standby 11 rfl) ?_
    refine bnE h (fun p4 e_p4 h => ?_)
    refine vg_cV (pc := 20) (As := [V 0, V 1]) (rest := []) (mc' := 0) (ms' := 0) (dK D_Mo_standby 12 rfl) K_Mo_125 (fitK rfl) (ltK rfl) hc0 rfl (leK rfl) (leK rfl) (leK rfl) (tf_Mo_throwsIf hc0 (inRk rfl) (inRk rfl) e_p4) (kcB ?_)
    refine vg_ifB_eq (pc := 23) (b := p4.1) (t := 28) (dK D_Mo_standby 13 rfl) rfl (fun hc5 => ?_) (fun hc5 => ?_)
    · replace h := ifP h hc5
      refine vg_iconst (pc := 26) (dK D_Mo_standby 14 rfl) ?_
      exact vg_iretI (pc := 27) (r := 0) (dK D_Mo_standby 15 rfl) rfl (leK rfl) (leK rfl) (fun _ => rfl) (by obtain rfl := Option.some.inj h; exact ⟨rfl, (inRk rfl), rfl⟩)
    · replace h := ifN h hc5
      refine g_iloadn (pc := 28) (i0 := 2) (j := 2) (dK D_Mo_standby 16 rfl) rfl rfl ?_
      refine vg_if_ne (pc := 29) (t := 41) (dK D_Mo_standby 17 rfl) rfl ha2 (fun hc10 => ?_) (fun hc10 => ?_)
      · replace h := ifN h hc10
        refine g_iloadn (pc := 41) (i0 := 2) (j := 2) (dK D_Mo_standby 23 rfl) rfl rfl ?_
        refine vg_iconst (pc := 42) (dK D_Mo_standby 24 rfl) ?_
        refine vg_icmp_ne (pc := 43) (t := 58) (dK D_Mo_standby 25 rfl) rfl ha2 (inRk rfl) (fun hc8 => ?_) (fun hc8 => ?_)
        · replace h := ifN h hc8
          refine vg_iconst (pc := 58) (dK D_Mo_standby 32 rfl) ?_
          exact vg_iretI (pc := 59) (r := (-1)) (dK D_Mo_standby 33 rfl) rfl (leK rfl) (leK rfl) (fun _ => rfl) (by obtain rfl := Option.some.inj h; exact ⟨rfl, (inRk rfl), rfl⟩)
        · replace h := ifP h hc8
          refine g_aloadn (pc := 46) (i0 := 0) (j := 0) (dK D_Mo_standby 26 rfl) rfl rfl ?_
          refine g_iloadn (pc := 47) (i0 := 1) (j := 1) (dK D_Mo_standby 27 rfl) rfl rfl ?_
          refine vg_iconst (pc := 48) (dK D_Mo_standby 28 rfl) ?_
          refine bnE h (fun p6 e_p6 h => ?_)
          refine vg_cV (pc := 49) (As := [V a1, V 1]) (rest := []) (mc' := 0) (ms' := 0) (dK D_Mo_standby 29 rfl) K_Mo_92 (fitK rfl) (ltK rfl) hc0 rfl (leK rfl) (leK rfl) (leK rfl) (tf_Mo_ofStandby hc0 ha1 (inRk rfl) e_p6) (kcI (fun h_p6 => ?_))
          refine bnE h (fun p7 e_p7 h => ?_)
          refine vg_cS (pc := 52) (As := [V p6]) (rest := []) (mc' := 0) (ms' := 0) (dK D_Mo_standby 30 rfl) K_Mo_170 (fitK rfl) rfl (leK rfl) (leK rfl) (leK rfl) (tf_Mo_toldPage h_p6 e_p7) (kcI (fun h_p7 => ?_))
          refine g_goto (pc := 55) (tgt := 59) (dK D_Mo_standby 31 rfl) rfl ?_
          exact vg_iretI (pc := 59) (r := p7) (dK D_Mo_standby 33 rfl) rfl (leK rfl) (leK rfl) (fun _ => rfl) (by obtain rfl := Option.some.inj h; exact ⟨rfl, h_p7, rfl⟩)
      · replace h := ifP h hc10
        refine g_aloadn (pc := 32) (i0 := 0) (j := 0) (dK D_Mo_standby 18 rfl) rfl rfl ?_
        refine g_iloadn (pc := 33) (i0 := 1) (j := 1) (dK D_Mo_standby 19 rfl) rfl rfl ?_
        refine vg_iconst (pc := 34) (dK D_Mo_standby 20 rfl) ?_
        refine bnE h (fun p9 e_p9 h => ?_)
        refine vg_cV (pc := 35) (As := [V a1, V 0]) (rest := []) (mc' := 0) (ms' := 0) (dK D_Mo_standby 21 rfl) K_Mo_92 (fitK rfl) (ltK rfl) hc0 rfl (leK rfl) (leK rfl) (leK rfl) (tf_Mo_ofStandby hc0 ha1 (inRk rfl) e_p9) (kcI (fun h_p9 => ?_))
        refine g_goto (pc := 38) (tgt := 59) (dK D_Mo_standby 22 rfl) rfl ?_
        exact vg_iretI (pc := 59) (r := p9) (dK D_Mo_standby 33 rfl) rfl (leK rfl) (leK rfl) (fun _ => rfl) (by obtain rfl := Option.some.inj h; exact ⟨rfl, h_p9, rfl⟩)
  · replace h := ifN h hc3
    refine vg_iconst (pc := 14) (dK D_Mo_standby 8 rfl) ?_
    refine g_goto (pc := 15) (tgt := 19) (dK D_Mo_standby 9 rfl) rfl ?_
    refine vg_iconst (pc := 19) (dK D_Mo_standby 11 rfl) ?_
    refine bnE h (fun p11 e_p11 h => ?_)
    refine vg_cV (pc := 20) (As := [V 1, V 1]) (rest := []) (mc' := 0) (ms' := 0) (dK D_Mo_standby 12 rfl) K_Mo_125 (fitK rfl) (ltK rfl) hc0 rfl (leK rfl) (leK rfl) (leK rfl) (tf_Mo_throwsIf hc0 (inRk rfl) (inRk rfl) e_p11) (kcB ?_)
    refine vg_ifB_eq (pc := 23) (b := p11.1) (t := 28) (dK D_Mo_standby 13 rfl) rfl (fun hc12 => ?_) (fun hc12 => ?_)
    · replace h := ifP h hc12
      refine vg_iconst (pc := 26) (dK D_Mo_standby 14 rfl) ?_
      exact vg_iretI (pc := 27) (r := 0) (dK D_Mo_standby 15 rfl) rfl (leK rfl) (leK rfl) (fun _ => rfl) (by obtain rfl := Option.some.inj h; exact ⟨rfl, (inRk rfl), rfl⟩)
    · replace h := ifN h hc12
      refine g_iloadn (pc := 28) (i0 := 2) (j := 2) (dK D_Mo_standby 16 rfl) rfl rfl ?_
      refine vg_if_ne (pc := 29) (t := 41) (dK D_Mo_standby 17 rfl) rfl ha2 (fun hc17 => ?_) (fun hc17 => ?_)
      · replace h := ifN h hc17
        refine g_iloadn (pc := 41) (i0 := 2) (j := 2) (dK D_Mo_standby 23 rfl) rfl rfl ?_
        refine vg_iconst (pc := 42) (dK D_Mo_standby 24 rfl) ?_
        refine vg_icmp_ne (pc := 43) (t := 58) (dK D_Mo_standby 25 rfl) rfl ha2 (inRk rfl) (fun hc15 => ?_) (fun hc15 => ?_)
        · replace h := ifN h hc15
          refine vg_iconst (pc := 58) (dK D_Mo_standby 32 rfl) ?_
          exact vg_iretI (pc := 59) (r := (-1)) (dK D_Mo_standby 33 rfl) rfl (leK rfl) (leK rfl) (fun _ => rfl) (by obtain rfl := Option.some.inj h; exact ⟨rfl, (inRk rfl), rfl⟩)
        · replace h := ifP h hc15
          refine g_aloadn (pc := 46) (i0 := 0) (j := 0) (dK D_Mo_standby 26 rfl) rfl rfl ?_
          refine g_iloadn (pc := 47) (i0 := 1) (j := 1) (dK D_Mo_standby 27 rfl) rfl rfl ?_
          refine vg_iconst (pc := 48) (dK D_Mo_standby 28 rfl) ?_
          refine bnE h (fun p13 e_p13 h => ?_)
          refine vg_cV (pc := 49) (As := [V a1, V 1]) (rest := []) (mc' := 0) (ms' := 0) (dK D_Mo_standby 29 rfl) K_Mo_92 (fitK rfl) (ltK rfl) hc0 rfl (leK rfl) (leK rfl) (leK rfl) (tf_Mo_ofStandby hc0 ha1 (inRk rfl) e_p13) (kcI (fun h_p13 => ?_))
          refine bnE h (fun p14 e_p14 h => ?_)
          refine vg_cS (pc := 52) (As := [V p13]) (rest := []) (mc' := 0) (ms' := 0) (dK D_Mo_standby 30 rfl) K_Mo_170 (fitK rfl) rfl (leK rfl) (leK rfl) (leK rfl) (tf_Mo_toldPage h_p13 e_p14) (kcI (fun h_p14 => ?_))
          refine g_goto (pc := 55) (tgt := 59) (dK D_Mo_standby 31 rfl) rfl ?_
          exact vg_iretI (pc := 59) (r := p14) (dK D_Mo_standby 33 rfl) rfl (leK rfl) (leK rfl) (fun _ => rfl) (by obtain rfl := Option.some.inj h; exact ⟨rfl, h_p14, rfl⟩)
      · replace h := ifP h hc17
        refine g_aloadn (pc := 32) (i0 := 0) (j := 0) (dK D_Mo_standby 18 rfl) rfl rfl ?_
        refine g_iloadn (pc := 33) (i0 := 1) (j := 1) (dK D_Mo_standby 19 rfl) rfl rfl ?_
        refine vg_iconst (pc := 34) (dK D_Mo_standby 20 rfl) ?_
        refine bnE h (fun p16 e_p16 h => ?_)
        refine vg_cV (pc := 35) (As := [V a1, V 0]) (rest := []) (mc' := 0) (ms' := 0) (dK D_Mo_standby 21 rfl) K_Mo_92 (fitK rfl) (ltK rfl) hc0 rfl (leK rfl) (leK rfl) (leK rfl) (tf_Mo_ofStandby hc0 ha1 (inRk rfl) e_p16) (kcI (fun h_p16 => ?_))
        refine g_goto (pc := 38) (tgt := 59) (dK D_Mo_standby 22 rfl) rfl ?_
        exact vg_iretI (pc := 59) (r := p16) (dK D_Mo_standby 33 rfl) rfl (leK rfl) (leK rfl) (fun _ => rfl) (by obtain rfl := Option.some.inj h; exact ⟨rfl, h_p16, rfl⟩)
def fn_Mo_left (c0 : Nat) (a1 : Int) (S : St) : Option (Int) := bnO (fn_Mo_leftOn c0 a1 (-1) (-1) S) fun p1 => some p1
theorem tf_Mo_left {E : EV} {X : XT} {c0 : Nat} (hc0 : HC X 11 c0) {a1 : Int} (ha1 : inR a1) {S : St} {q : Int} (h : fn_Mo_left c0 a1 S = some q) : Ev E M_Mo_left [.ref c0, V a1] (WX X S) 0 0 (KI X q S) := by
  refine Ev.of pn_Mo rfl (leK rfl) ?_
  show Go E M_Mo_left 0 0 0 [(0, .ref c0), (1, V a1)] [] (WX X S) 0 0 (KI X q S)
  unfold fn_Mo_left at h
  refine g_aloadn (pc := 0) (i0 := 0) (j := 0) (dK D_Mo_left 0 rfl) rfl rfl ?_
  refine g_iloadn (pc := 1) (i0 := 1) (j := 1) (dK D_Mo_left 1 rfl) rfl rfl ?_
  refine vg_iconst (pc := 2) (dK D_Mo_left 2 rfl) ?_
  refine vg_iconst (pc := 3) (dK D_Mo_left 3 rfl) ?_
  refine bnE h (fun p1 e_p1 h => ?_)
  refine vg_cV (pc := 4) (As := [V a1, V (-1), V (-1)]) (rest := []) (mc' := 0) (ms' := 0) (dK D_Mo_left 4 rfl) K_Mo_102 (fitK rfl) (ltK rfl) hc0 rfl (leK rfl) (leK rfl) (leK rfl) (tf_Mo_leftOn hc0 ha1 (inRk rfl) (inRk rfl) e_p1) (kcI (fun h_p1 => ?_))
  exact vg_iretI (pc := 7) (r := p1) (dK D_Mo_left 5 rfl) rfl (leK rfl) (leK rfl) (fun _ => rfl) (by obtain rfl := Option.some.inj h; exact ⟨rfl, h_p1, rfl⟩)
def lb_Mo_adsOn_4 (c0 : Nat) (a1 : Int) (S : St) (go : Int × Int → Option (Int)) (a2 : Int) (a3 : Int) : Option (Int) := if (g S (tgt c0 0) 1) ≤ a3 then (some a2) else (bnO (fn_Mo_ofAd c0 a3 6 S) fun p1 => if p1 = a1 then (nm (wr (a2 + 1)) fun v4 => nm (wr (a3 + 1)) fun v5 => go (v4, v5)) else (nm (wr (a2 + 0)) fun v2 => nm (wr (a3 + 1)) fun v3 => go (v2, v3)))
def lo_Mo_adsOn_4 (c0 : Nat) (a1 : Int) (S : St) : Nat → Int × Int → Option (Int) := lp fun go p => lb_Mo_adsOn_4 c0 a1 S go p.1 p.2
theorem tl_Mo_adsOn_4 {E : EV} {X : XT} {c0 : Nat} (hc0 : HC X 11 c0) {a1 : Int} (ha1 : inR a1) {S : St} {K : RK → PS → Prop} {q : Int} (hx : inR q → Go E M_Mo_adsOn 0 0 39 [(2, V q)] [] (WX X S) 0 0 K) : ∀ n a, lo_Mo_adsOn_4 c0 a1 S n a = some q → inR a.1 → inR a.2 → Go E M_Mo_adsOn 0 0 4 [(0, .ref c0), (1, V a1), (2, V a.1), (3, V a.2)] [] (WX X S) 0 0 K := by
  refine lp_ind (P := fun a : Int × Int => inR a.1 → inR a.2 → Go E M_Mo_adsOn 0 0 4 [(0, .ref c0), (1, V a1), (2, V a.1), (3, V a.2)] [] (WX X S) 0 0 K) (fun go ih a h => ?_)
  obtain ⟨a2, a3⟩ := a
  intro ha2 ha3
  show Go E M_Mo_adsOn 0 0 4 [(0, .ref c0), (1, V a1), (2, V a2), (3, V a3)] [] (WX X S) 0 0 K
  replace h : lb_Mo_adsOn_4 c0 a1 S go a2 a3 = some q := h
  unfold lb_Mo_adsOn_4 at h
  refine g_iloadn (pc := 4) (i0 := 3) (j := 3) (dK D_Mo_adsOn 4 rfl) rfl rfl ?_
  refine g_aloadn (pc := 5) (i0 := 0) (j := 0) (dK D_Mo_adsOn 5 rfl) rfl rfl ?_
  refine vg_getA (pc := 6) (ci := 11) (f := 0) (dK D_Mo_adsOn 6 rfl) q_1442 hc0 (ltK rfl) (ltK rfl) rfl ?_
  refine vg_iconst (pc := 9) (dK D_Mo_adsOn 7 rfl) ?_
  refine vg_iaload (pc := 10) (j := 1) (dK D_Mo_adsOn 8 rfl) (hw_11_0 hc0) rfl ⟨by decide, by decide⟩ rfl ?_
  refine vg_icmp_ge (pc := 11) (t := 39) (dK D_Mo_adsOn 9 rfl) rfl ha3 (g_in _ _ _) (fun hc7 => ?_) (fun hc7 => ?_)
  · replace h := ifP h hc7
    obtain rfl := Option.some.inj h
    refine gL_weak (ls' := [(2, V a2)]) (sbc 2 rfl sbn) ?_
    exact hx ha2
  · replace h := ifN h hc7
    refine g_iloadn (pc := 14) (i0 := 2) (j := 2) (dK D_Mo_adsOn 10 rfl) rfl rfl ?_
    refine g_aloadn (pc := 15) (i0 := 0) (j := 0) (dK D_Mo_adsOn 11 rfl) rfl rfl ?_
    refine g_iloadn (pc := 16) (i0 := 3) (j := 3) (dK D_Mo_adsOn 12 rfl) rfl rfl ?_
    refine vg_bipush (pc := 17) (dK D_Mo_adsOn 13 rfl) rfl ?_
    refine bnE h (fun p1 e_p1 h => ?_)
    refine vg_cV (pc := 19) (As := [V a3, V 6]) (rest := [V a2]) (mc' := 0) (ms' := 0) (dK D_Mo_adsOn 14 rfl) K_Mo_82 (fitK rfl) (ltK rfl) hc0 rfl (leK rfl) (leK rfl) (leK rfl) (tf_Mo_ofAd hc0 ha3 (inRk rfl) e_p1) (kcI (fun h_p1 => ?_))
    refine g_iloadn (pc := 22) (i0 := 1) (j := 1) (dK D_Mo_adsOn 15 rfl) rfl rfl ?_
    refine vg_icmp_ne (pc := 23) (t := 30) (dK D_Mo_adsOn 16 rfl) rfl h_p1 ha1 (fun hc6 => ?_) (fun hc6 => ?_)
    · replace h := ifN h hc6
      refine vg_iconst (pc := 30) (dK D_Mo_adsOn 19 rfl) ?_
      refine vg_iadd (pc := 31) (dK D_Mo_adsOn 20 rfl) ?_
      refine nmE h (fun v2 e_v2 h => ?_)
      refine gtop e_v2 ?_
      refine g_istoren (pc := 32) (i0 := 2) (ls2 := [(2, V v2), (0, .ref c0), (1, V a1), (3, V a3)]) (dK D_Mo_adsOn 21 rfl) rfl (ltK rfl) rfl ?_
      refine nmE h (fun v3 e_v3 h => ?_)
      refine vg_iinc (pc := 33) (j := 3) (a := a3) (z := 1) (ls2 := [(3, V v3), (2, V v2), (0, .ref c0), (1, V a1)]) (dK D_Mo_adsOn 22 rfl) rfl e_v3 (ltK rfl) rfl ?_
      refine g_goto (pc := 36) (tgt := 4) (dK D_Mo_adsOn 23 rfl) rfl ?_
      refine gL_weak (ls' := [(0, .ref c0), (1, V a1), (2, V v2), (3, V v3)]) (sbc 2 rfl (sbc 3 rfl (sbc 1 rfl (sbc 0 rfl sbn)))) ?_
      replace h := ih _ h
      exact h (Vn_in e_v2) (Vn_in e_v3)
    · replace h := ifP h hc6
      refine vg_iconst (pc := 26) (dK D_Mo_adsOn 17 rfl) ?_
      refine g_goto (pc := 27) (tgt := 31) (dK D_Mo_adsOn 18 rfl) rfl ?_
      refine vg_iadd (pc := 31) (dK D_Mo_adsOn 20 rfl) ?_
      refine nmE h (fun v4 e_v4 h => ?_)
      refine gtop e_v4 ?_
      refine g_istoren (pc := 32) (i0 := 2) (ls2 := [(2, V v4), (0, .ref c0), (1, V a1), (3, V a3)]) (dK D_Mo_adsOn 21 rfl) rfl (ltK rfl) rfl ?_
      refine nmE h (fun v5 e_v5 h => ?_)
      refine vg_iinc (pc := 33) (j := 3) (a := a3) (z := 1) (ls2 := [(3, V v5), (2, V v4), (0, .ref c0), (1, V a1)]) (dK D_Mo_adsOn 22 rfl) rfl e_v5 (ltK rfl) rfl ?_
      refine g_goto (pc := 36) (tgt := 4) (dK D_Mo_adsOn 23 rfl) rfl ?_
      refine gL_weak (ls' := [(0, .ref c0), (1, V a1), (2, V v4), (3, V v5)]) (sbc 2 rfl (sbc 3 rfl (sbc 1 rfl (sbc 0 rfl sbn)))) ?_
      replace h := ih _ h
      exact h (Vn_in e_v4) (Vn_in e_v5)
def fn_Mo_adsOn (c0 : Nat) (a1 : Int) (S : St) : Option (Int) := bnO (lo_Mo_adsOn_4 c0 a1 S FU (0, 0)) fun p8 => some p8
theorem tf_Mo_adsOn {E : EV} {X : XT} {c0 : Nat} (hc0 : HC X 11 c0) {a1 : Int} (ha1 : inR a1) {S : St} {q : Int} (h : fn_Mo_adsOn c0 a1 S = some q) : Ev E M_Mo_adsOn [.ref c0, V a1] (WX X S) 0 0 (KI X q S) := by
  refine Ev.of pn_Mo rfl (leK rfl) ?_
  show Go E M_Mo_adsOn 0 0 0 [(0, .ref c0), (1, V a1)] [] (WX X S) 0 0 (KI X q S)
  unfold fn_Mo_adsOn at h
  refine vg_iconst (pc := 0) (dK D_Mo_adsOn 0 rfl) ?_
  refine g_istoren (pc := 1) (i0 := 2) (ls2 := [(2, V 0), (0, .ref c0), (1, V a1)]) (dK D_Mo_adsOn 1 rfl) rfl (ltK rfl) rfl ?_
  refine vg_iconst (pc := 2) (dK D_Mo_adsOn 2 rfl) ?_
  refine g_istoren (pc := 3) (i0 := 3) (ls2 := [(3, V 0), (2, V 0), (0, .ref c0), (1, V a1)]) (dK D_Mo_adsOn 3 rfl) rfl (ltK rfl) rfl ?_
  refine bnE h (fun p8 e_p8 h => ?_)
  refine gL_weak (ls' := [(0, .ref c0), (1, V a1), (2, V 0), (3, V 0)]) (sbc 2 rfl (sbc 3 rfl (sbc 1 rfl (sbc 0 rfl sbn)))) ?_
  refine tl_Mo_adsOn_4 hc0 ha1 (fun hx2_p8 => ?_) FU (0, 0) e_p8 (inRk rfl) (inRk rfl)
  refine g_iloadn (pc := 39) (i0 := 2) (j := 0) (dK D_Mo_adsOn 24 rfl) rfl rfl ?_
  exact vg_iretI (pc := 40) (r := p8) (dK D_Mo_adsOn 25 rfl) rfl (leK rfl) (leK rfl) (fun _ => rfl) (by obtain rfl := Option.some.inj h; exact ⟨rfl, hx2_p8, rfl⟩)
def lb_Mo_standbysOn_4 (c0 : Nat) (a1 : Int) (S : St) (go : Int × Int → Option (Int)) (a2 : Int) (a3 : Int) : Option (Int) := if (g S (tgt c0 0) 3) ≤ a3 then (some a2) else (bnO (fn_Mo_ofStandby c0 a3 1 S) fun p1 => if p1 = a1 then (nm (wr (a2 + 1)) fun v4 => nm (wr (a3 + 1)) fun v5 => go (v4, v5)) else (nm (wr (a2 + 0)) fun v2 => nm (wr (a3 + 1)) fun v3 => go (v2, v3)))
def lo_Mo_standbysOn_4 (c0 : Nat) (a1 : Int) (S : St) : Nat → Int × Int → Option (Int) := lp fun go p => lb_Mo_standbysOn_4 c0 a1 S go p.1 p.2
theorem tl_Mo_standbysOn_4 {E : EV} {X : XT} {c0 : Nat} (hc0 : HC X 11 c0) {a1 : Int} (ha1 : inR a1) {S : St} {K : RK → PS → Prop} {q : Int} (hx : inR q → Go E M_Mo_standbysOn 0 0 38 [(2, V q)] [] (WX X S) 0 0 K) : ∀ n a, lo_Mo_standbysOn_4 c0 a1 S n a = some q → inR a.1 → inR a.2 → Go E M_Mo_standbysOn 0 0 4 [(0, .ref c0), (1, V a1), (2, V a.1), (3, V a.2)] [] (WX X S) 0 0 K := by
  refine lp_ind (P := fun a : Int × Int => inR a.1 → inR a.2 → Go E M_Mo_standbysOn 0 0 4 [(0, .ref c0), (1, V a1), (2, V a.1), (3, V a.2)] [] (WX X S) 0 0 K) (fun go ih a h => ?_)
  obtain ⟨a2, a3⟩ := a
  intro ha2 ha3
  show Go E M_Mo_standbysOn 0 0 4 [(0, .ref c0), (1, V a1), (2, V a2), (3, V a3)] [] (WX X S) 0 0 K
  replace h : lb_Mo_standbysOn_4 c0 a1 S go a2 a3 = some q := h
  unfold lb_Mo_standbysOn_4 at h
  refine g_iloadn (pc := 4) (i0 := 3) (j := 3) (dK D_Mo_standbysOn 4 rfl) rfl rfl ?_
  refine g_aloadn (pc := 5) (i0 := 0) (j := 0) (dK D_Mo_standbysOn 5 rfl) rfl rfl ?_
  refine vg_getA (pc := 6) (ci := 11) (f := 0) (dK D_Mo_standbysOn 6 rfl) q_1442 hc0 (ltK rfl) (ltK rfl) rfl ?_
  refine vg_iconst (pc := 9) (dK D_Mo_standbysOn 7 rfl) ?_
  refine vg_iaload (pc := 10) (j := 3) (dK D_Mo_standbysOn 8 rfl) (hw_11_0 hc0) rfl ⟨by decide, by decide⟩ rfl ?_
  refine vg_icmp_ge (pc := 11) (t := 38) (dK D_Mo_standbysOn 9 rfl) rfl ha3 (g_in _ _ _) (fun hc7 => ?_) (fun hc7 => ?_)
  · replace h := ifP h hc7
    obtain rfl := Option.some.inj h
    refine gL_weak (ls' := [(2, V a2)]) (sbc 2 rfl sbn) ?_
    exact hx ha2
  · replace h := ifN h hc7
    refine g_iloadn (pc := 14) (i0 := 2) (j := 2) (dK D_Mo_standbysOn 10 rfl) rfl rfl ?_
    refine g_aloadn (pc := 15) (i0 := 0) (j := 0) (dK D_Mo_standbysOn 11 rfl) rfl rfl ?_
    refine g_iloadn (pc := 16) (i0 := 3) (j := 3) (dK D_Mo_standbysOn 12 rfl) rfl rfl ?_
    refine vg_iconst (pc := 17) (dK D_Mo_standbysOn 13 rfl) ?_
    refine bnE h (fun p1 e_p1 h => ?_)
    refine vg_cV (pc := 18) (As := [V a3, V 1]) (rest := [V a2]) (mc' := 0) (ms' := 0) (dK D_Mo_standbysOn 14 rfl) K_Mo_92 (fitK rfl) (ltK rfl) hc0 rfl (leK rfl) (leK rfl) (leK rfl) (tf_Mo_ofStandby hc0 ha3 (inRk rfl) e_p1) (kcI (fun h_p1 => ?_))
    refine g_iloadn (pc := 21) (i0 := 1) (j := 1) (dK D_Mo_standbysOn 15 rfl) rfl rfl ?_
    refine vg_icmp_ne (pc := 22) (t := 29) (dK D_Mo_standbysOn 16 rfl) rfl h_p1 ha1 (fun hc6 => ?_) (fun hc6 => ?_)
    · replace h := ifN h hc6
      refine vg_iconst (pc := 29) (dK D_Mo_standbysOn 19 rfl) ?_
      refine vg_iadd (pc := 30) (dK D_Mo_standbysOn 20 rfl) ?_
      refine nmE h (fun v2 e_v2 h => ?_)
      refine gtop e_v2 ?_
      refine g_istoren (pc := 31) (i0 := 2) (ls2 := [(2, V v2), (0, .ref c0), (1, V a1), (3, V a3)]) (dK D_Mo_standbysOn 21 rfl) rfl (ltK rfl) rfl ?_
      refine nmE h (fun v3 e_v3 h => ?_)
      refine vg_iinc (pc := 32) (j := 3) (a := a3) (z := 1) (ls2 := [(3, V v3), (2, V v2), (0, .ref c0), (1, V a1)]) (dK D_Mo_standbysOn 22 rfl) rfl e_v3 (ltK rfl) rfl ?_
      refine g_goto (pc := 35) (tgt := 4) (dK D_Mo_standbysOn 23 rfl) rfl ?_
      refine gL_weak (ls' := [(0, .ref c0), (1, V a1), (2, V v2), (3, V v3)]) (sbc 2 rfl (sbc 3 rfl (sbc 1 rfl (sbc 0 rfl sbn)))) ?_
      replace h := ih _ h
      exact h (Vn_in e_v2) (Vn_in e_v3)
    · replace h := ifP h hc6
      refine vg_iconst (pc := 25) (dK D_Mo_standbysOn 17 rfl) ?_
      refine g_goto (pc := 26) (tgt := 30) (dK D_Mo_standbysOn 18 rfl) rfl ?_
      refine vg_iadd (pc := 30) (dK D_Mo_standbysOn 20 rfl) ?_
      refine nmE h (fun v4 e_v4 h => ?_)
      refine gtop e_v4 ?_
      refine g_istoren (pc := 31) (i0 := 2) (ls2 := [(2, V v4), (0, .ref c0), (1, V a1), (3, V a3)]) (dK D_Mo_standbysOn 21 rfl) rfl (ltK rfl) rfl ?_
      refine nmE h (fun v5 e_v5 h => ?_)
      refine vg_iinc (pc := 32) (j := 3) (a := a3) (z := 1) (ls2 := [(3, V v5), (2, V v4), (0, .ref c0), (1, V a1)]) (dK D_Mo_standbysOn 22 rfl) rfl e_v5 (ltK rfl) rfl ?_
      refine g_goto (pc := 35) (tgt := 4) (dK D_Mo_standbysOn 23 rfl) rfl ?_
      refine gL_weak (ls' := [(0, .ref c0), (1, V a1), (2, V v4), (3, V v5)]) (sbc 2 rfl (sbc 3 rfl (sbc 1 rfl (sbc 0 rfl sbn)))) ?_
      replace h := ih _ h
      exact h (Vn_in e_v4) (Vn_in e_v5)
def fn_Mo_standbysOn (c0 : Nat) (a1 : Int) (S : St) : Option (Int) := bnO (lo_Mo_standbysOn_4 c0 a1 S FU (0, 0)) fun p8 => some p8
theorem tf_Mo_standbysOn {E : EV} {X : XT} {c0 : Nat} (hc0 : HC X 11 c0) {a1 : Int} (ha1 : inR a1) {S : St} {q : Int} (h : fn_Mo_standbysOn c0 a1 S = some q) : Ev E M_Mo_standbysOn [.ref c0, V a1] (WX X S) 0 0 (KI X q S) := by
  refine Ev.of pn_Mo rfl (leK rfl) ?_
  show Go E M_Mo_standbysOn 0 0 0 [(0, .ref c0), (1, V a1)] [] (WX X S) 0 0 (KI X q S)
  unfold fn_Mo_standbysOn at h
  refine vg_iconst (pc := 0) (dK D_Mo_standbysOn 0 rfl) ?_
  refine g_istoren (pc := 1) (i0 := 2) (ls2 := [(2, V 0), (0, .ref c0), (1, V a1)]) (dK D_Mo_standbysOn 1 rfl) rfl (ltK rfl) rfl ?_
  refine vg_iconst (pc := 2) (dK D_Mo_standbysOn 2 rfl) ?_
  refine g_istoren (pc := 3) (i0 := 3) (ls2 := [(3, V 0), (2, V 0), (0, .ref c0), (1, V a1)]) (dK D_Mo_standbysOn 3 rfl) rfl (ltK rfl) rfl ?_
  refine bnE h (fun p8 e_p8 h => ?_)
  refine gL_weak (ls' := [(0, .ref c0), (1, V a1), (2, V 0), (3, V 0)]) (sbc 2 rfl (sbc 3 rfl (sbc 1 rfl (sbc 0 rfl sbn)))) ?_
  refine tl_Mo_standbysOn_4 hc0 ha1 (fun hx2_p8 => ?_) FU (0, 0) e_p8 (inRk rfl) (inRk rfl)
  refine g_iloadn (pc := 38) (i0 := 2) (j := 0) (dK D_Mo_standbysOn 24 rfl) rfl rfl ?_
  exact vg_iretI (pc := 39) (r := p8) (dK D_Mo_standbysOn 25 rfl) rfl (leK rfl) (leK rfl) (fun _ => rfl) (by obtain rfl := Option.some.inj h; exact ⟨rfl, hx2_p8, rfl⟩)
def fn_Mo_page (c0 : Nat) (a1 : Int) (a2 : Int) (S : St) : Option (Int × St) := nm (u S c0 4 0) fun S1 => bnO (fn_Mo_isPage c0 a1 S1) fun p2 => if p2 = true then (bnO (fn_Mo_throwsIf c0 0 1 S1) fun p4 => if p4.1 = true then (some (0, p4.2)) else (if a2 = 0 then (some ((wr (a1.tdiv 2)), p4.2)) else if a2 = 1 then (nm (wr (a1 - 1)) fun v8 => if 0 < (g p4.2 c0 2) then (some ((wr (v8.tdiv (g p4.2 c0 2))), p4.2)) else none) else if a2 = 2 then (bnO (fn_Mo_formOf c0 a1 p4.2) fun p11 => some (p11, p4.2)) else if a2 = 3 then (bnO (fn_Mo_left c0 a1 p4.2) fun p13 => some (p13, p4.2)) else if a2 = 4 then (bnO (fn_Mo_adsOn c0 a1 p4.2) fun p15 => some (p15, p4.2)) else if a2 = 5 then (bnO (fn_Mo_storyOn c0 a1 (-1) p4.2) fun p17 => some (p17, p4.2)) else if a2 = 6 then (bnO (fn_Mo_standbysOn c0 a1 p4.2) fun p19 => some (p19, p4.2)) else (some ((-1), p4.2)))) else (bnO (fn_Mo_throwsIf c0 1 1 S1) fun p20 => if p20.1 = true then (some (0, p20.2)) else (if a2 = 0 then (some ((wr (a1.tdiv 2)), p20.2)) else if a2 = 1 then (nm (wr (a1 - 1)) fun v24 => if 0 < (g p20.2 c0 2) then (some ((wr (v24.tdiv (g p20.2 c0 2))), p20.2)) else none) else if a2 = 2 then (bnO (fn_Mo_formOf c0 a1 p20.2) fun p27 => some (p27, p20.2)) else if a2 = 3 then (bnO (fn_Mo_left c0 a1 p20.2) fun p29 => some (p29, p20.2)) else if a2 = 4 then (bnO (fn_Mo_adsOn c0 a1 p20.2) fun p31 => some (p31, p20.2)) else if a2 = 5 then (bnO (fn_Mo_storyOn c0 a1 (-1) p20.2) fun p33 => some (p33, p20.2)) else if a2 = 6 then (bnO (fn_Mo_standbysOn c0 a1 p20.2) fun p35 => some (p35, p20.2)) else (some ((-1), p20.2))))
theorem tf_Mo_page {E : EV} {X : XT} {c0 : Nat} (hc0 : HC X 11 c0) {a1 : Int} (ha1 : inR a1) {a2 : Int} (ha2 : inR a2) {S : St} {q : Int × St} (h : fn_Mo_page c0 a1 a2 S = some q) : Ev E M_Mo_page [.ref c0, V a1, V a2] (WX X S) 0 0 (KI X q.1 q.2) := by
  refine Ev.of pn_Mo rfl (leK rfl) ?_
  show Go E M_Mo_page 0 0 0 [(0, .ref c0), (1, V a1), (2, V a2)] [] (WX X S) 0 0 (KI X q.1 q.2)
  unfold fn_Mo_page at h
  refine g_aloadn (pc := 0) (i0 := 0) (j := 0) (dK D_Mo_page_0 0 rfl) rfl rfl ?_
  refine vg_iconst (pc := 1) (dK D_Mo_page_0 1 rfl) ?_
  refine nmE h (fun S1 e_S1 h => ?_)
  refine vg_putI (pc := 2) (ci := 11) (f := 4) (z := 0) (dK D_Mo_page_0 2 rfl) q_1446 hc0 (ltK rfl) (ltK rfl) rfl rfl e_S1 ?_
  refine g_aloadn (pc := 5) (i0 := 0) (j := 0) (dK D_Mo_page_0 3 rfl) rfl rfl ?_
  refine g_aloadn (pc := 6) (i0 := 0) (j := 0) (dK D_Mo_page_0 4 rfl) rfl rfl ?_
  refine g_iloadn (pc := 7) (i0 := 1) (j := 1) (dK D_Mo_page_0 5 rfl) rfl rfl ?_
  refine bnE h (fun p2 e_p2 h => ?_)
  refine vg_cV (pc := 8) (As := [V a1]) (rest := [.ref c0]) (mc' := 0) (ms' := 0) (dK D_Mo_page_0 6 rfl) K_Mo_105 (fitK rfl) (ltK rfl) hc0 rfl (leK rfl) (leK rfl) (leK rfl) (tf_Mo_isPage hc0 ha1 e_p2) (kcB ?_)
  refine vg_ifB_ne (pc := 11) (b := p2) (t := 18) (dK D_Mo_page_0 7 rfl) rfl (fun hc3 => ?_) (fun hc3 => ?_)
  · replace h := ifP h hc3
    refine vg_iconst (pc := 18) (dK D_Mo_page_0 10 rfl) ?_
    refine vg_iconst (pc := 19) (dK D_Mo_page_0 11 rfl) ?_
    refine bnE h (fun p4 e_p4 h => ?_)
    refine vg_cV (pc := 20) (As := [V 0, V 1]) (rest := []) (mc' := 0) (ms' := 0) (dK D_Mo_page_0 12 rfl) K_Mo_125 (fitK rfl) (ltK rfl) hc0 rfl (leK rfl) (leK rfl) (leK rfl) (tf_Mo_throwsIf hc0 (inRk rfl) (inRk rfl) e_p4) (kcB ?_)
    refine vg_ifB_eq (pc := 23) (b := p4.1) (t := 28) (dK D_Mo_page_0 13 rfl) rfl (fun hc5 => ?_) (fun hc5 => ?_)
    · replace h := ifP h hc5
      refine vg_iconst (pc := 26) (dK D_Mo_page_0 14 rfl) ?_
      exact vg_iretI (pc := 27) (r := 0) (dK D_Mo_page_0 15 rfl) rfl (leK rfl) (leK rfl) (fun _ => rfl) (by obtain rfl := Option.some.inj h; exact ⟨rfl, (inRk rfl), rfl⟩)
    · replace h := ifN h hc5
      refine g_iloadn (pc := 28) (i0 := 2) (j := 2) (dK D_Mo_page_0 16 rfl) rfl rfl ?_
      by_cases hk6 : a2 = 0
      · have h := ifP h hk6
        refine vg_tabK (pc := 29) (kk := 0) (t := 72) (dK D_Mo_page_0 17 rfl) hk6 rfl rfl rfl rfl ?_
        refine g_iloadn (pc := 72) (i0 := 1) (j := 1) (dK D_Mo_page_0 18 rfl) rfl rfl ?_
        refine vg_iconst (pc := 73) (dK D_Mo_page_0 19 rfl) ?_
        refine vg_idiv (pc := 74) (dK D_Mo_page_0 20 rfl) ha1 (inRk rfl) (by decide) ?_
        refine gtop (x := (wr (a1.tdiv 2))) rfl ?_
        exact vg_iretI (pc := 75) (r := (wr (a1.tdiv 2))) (dK D_Mo_page_0 21 rfl) rfl (leK rfl) (leK rfl) (fun _ => rfl) (by obtain rfl := Option.some.inj h; exact ⟨rfl, (wr_in _), rfl⟩)
      replace h := ifN h hk6
      by_cases hk7 : a2 = 1
      · have h := ifP h hk7
        refine vg_tabK (pc := 29) (kk := 1) (t := 76) (dK D_Mo_page_0 17 rfl) hk7 rfl rfl rfl rfl ?_
        refine g_iloadn (pc := 76) (i0 := 1) (j := 1) (dK D_Mo_page_0 22 rfl) rfl rfl ?_
        refine vg_iconst (pc := 77) (dK D_Mo_page_0 23 rfl) ?_
        refine vg_isub (pc := 78) (dK D_Mo_page_0 24 rfl) ?_
        refine g_aloadn (pc := 79) (i0 := 0) (j := 0) (dK D_Mo_page_0 25 rfl) rfl rfl ?_
        refine vg_getI (pc := 80) (ci := 11) (f := 2) (dK D_Mo_page_0 26 rfl) q_1444 hc0 (ltK rfl) (ltK rfl) rfl ?_
        refine nmE h (fun v8 e_v8 h => ?_)
        refine gsk (st' := [V (g p4.2 c0 2), V v8]) (by rw [Vn e_v8]) ?_
        refine gdE h (fun hp9 h => ?_)
        refine vg_idiv (pc := 83) (dK D_Mo_page_0 27 rfl) (Vn_in e_v8) (g_in _ _ _) hp9 ?_
        refine gtop (x := (wr (v8.tdiv (g p4.2 c0 2)))) rfl ?_
        exact vg_iretI (pc := 84) (r := (wr (v8.tdiv (g p4.2 c0 2)))) (dK D_Mo_page_0 28 rfl) rfl (leK rfl) (leK rfl) (fun _ => rfl) (by obtain rfl := Option.some.inj h; exact ⟨rfl, (wr_in _), rfl⟩)
      replace h := ifN h hk7
      by_cases hk10 : a2 = 2
      · have h := ifP h hk10
        refine vg_tabK (pc := 29) (kk := 2) (t := 85) (dK D_Mo_page_0 17 rfl) hk10 rfl rfl rfl rfl ?_
        refine g_aloadn (pc := 85) (i0 := 0) (j := 0) (dK D_Mo_page_0 29 rfl) rfl rfl ?_
        refine g_iloadn (pc := 86) (i0 := 1) (j := 1) (dK D_Mo_page_0 30 rfl) rfl rfl ?_
        refine bnE h (fun p11 e_p11 h => ?_)
        refine vg_cV (pc := 87) (As := [V a1]) (rest := []) (mc' := 0) (ms' := 0) (dK D_Mo_page_0 31 rfl) K_Mo_74 (fitK rfl) (ltK rfl) hc0 rfl (leK rfl) (leK rfl) (leK rfl) (tf_Mo_formOf hc0 ha1 e_p11) (kcI (fun h_p11 => ?_))
        exact vg_iretI (pc := 90) (r := p11) (dK D_Mo_page_0 32 rfl) rfl (leK rfl) (leK rfl) (fun _ => rfl) (by obtain rfl := Option.some.inj h; exact ⟨rfl, h_p11, rfl⟩)
      replace h := ifN h hk10
      by_cases hk12 : a2 = 3
      · have h := ifP h hk12
        refine vg_tabK (pc := 29) (kk := 3) (t := 91) (dK D_Mo_page_0 17 rfl) hk12 rfl rfl rfl rfl ?_
        refine g_aloadn (pc := 91) (i0 := 0) (j := 0) (dK D_Mo_page_0 33 rfl) rfl rfl ?_
        refine g_iloadn (pc := 92) (i0 := 1) (j := 1) (dK D_Mo_page_0 34 rfl) rfl rfl ?_
        refine bnE h (fun p13 e_p13 h => ?_)
        refine vg_cV (pc := 93) (As := [V a1]) (rest := []) (mc' := 0) (ms' := 0) (dK D_Mo_page_0 35 rfl) K_Mo_184 (fitK rfl) (ltK rfl) hc0 rfl (leK rfl) (leK rfl) (leK rfl) (tf_Mo_left hc0 ha1 e_p13) (kcI (fun h_p13 => ?_))
        exact vg_iretI (pc := 96) (r := p13) (dK D_Mo_page_0 36 rfl) rfl (leK rfl) (leK rfl) (fun _ => rfl) (by obtain rfl := Option.some.inj h; exact ⟨rfl, h_p13, rfl⟩)
      replace h := ifN h hk12
      by_cases hk14 : a2 = 4
      · have h := ifP h hk14
        refine vg_tabK (pc := 29) (kk := 4) (t := 97) (dK D_Mo_page_0 17 rfl) hk14 rfl rfl rfl rfl ?_
        refine g_aloadn (pc := 97) (i0 := 0) (j := 0) (dK D_Mo_page_0 37 rfl) rfl rfl ?_
        refine g_iloadn (pc := 98) (i0 := 1) (j := 1) (dK D_Mo_page_0 38 rfl) rfl rfl ?_
        refine bnE h (fun p15 e_p15 h => ?_)
        refine vg_cV (pc := 99) (As := [V a1]) (rest := []) (mc' := 0) (ms' := 0) (dK D_Mo_page_0 39 rfl) K_Mo_187 (fitK rfl) (ltK rfl) hc0 rfl (leK rfl) (leK rfl) (leK rfl) (tf_Mo_adsOn hc0 ha1 e_p15) (kcI (fun h_p15 => ?_))
        exact vg_iretI (pc := 102) (r := p15) (dK D_Mo_page_0 40 rfl) rfl (leK rfl) (leK rfl) (fun _ => rfl) (by obtain rfl := Option.some.inj h; exact ⟨rfl, h_p15, rfl⟩)
      replace h := ifN h hk14
      by_cases hk16 : a2 = 5
      · have h := ifP h hk16
        refine vg_tabK (pc := 29) (kk := 5) (t := 103) (dK D_Mo_page_0 17 rfl) hk16 rfl rfl rfl rfl ?_
        refine g_aloadn (pc := 103) (i0 := 0) (j := 0) (dK D_Mo_page_0 41 rfl) rfl rfl ?_
        refine g_iloadn (pc := 104) (i0 := 1) (j := 1) (dK D_Mo_page_0 42 rfl) rfl rfl ?_
        refine vg_iconst (pc := 105) (dK D_Mo_page_0 43 rfl) ?_
        refine bnE h (fun p17 e_p17 h => ?_)
        refine vg_cV (pc := 106) (As := [V a1, V (-1)]) (rest := []) (mc' := 0) (ms' := 0) (dK D_Mo_page_0 44 rfl) K_Mo_95 (fitK rfl) (ltK rfl) hc0 rfl (leK rfl) (leK rfl) (leK rfl) (tf_Mo_storyOn hc0 ha1 (inRk rfl) e_p17) (kcI (fun h_p17 => ?_))
        exact vg_iretI (pc := 109) (r := p17) (dK D_Mo_page_0 45 rfl) rfl (leK rfl) (leK rfl) (fun _ => rfl) (by obtain rfl := Option.some.inj h; exact ⟨rfl, h_p17, rfl⟩)
      replace h := ifN h hk16
      by_cases hk18 : a2 = 6
      · have h := ifP h hk18
        refine vg_tabK (pc := 29) (kk := 6) (t := 110) (dK D_Mo_page_0 17 rfl) hk18 rfl rfl rfl rfl ?_
        refine g_aloadn (pc := 110) (i0 := 0) (j := 0) (dK D_Mo_page_0 46 rfl) rfl rfl ?_
        refine g_iloadn (pc := 111) (i0 := 1) (j := 1) (dK D_Mo_page_0 47 rfl) rfl rfl ?_
        refine bnE h (fun p19 e_p19 h => ?_)
        refine vg_cV (pc := 112) (As := [V a1]) (rest := []) (mc' := 0) (ms' := 0) (dK D_Mo_page_0 48 rfl) K_Mo_190 (fitK rfl) (ltK rfl) hc0 rfl (leK rfl) (leK rfl) (leK rfl) (tf_Mo_standbysOn hc0 ha1 e_p19) (kcI (fun h_p19 => ?_))
        exact vg_iretI (pc := 115) (r := p19) (dK D_Mo_page_0 49 rfl) rfl (leK rfl) (leK rfl) (fun _ => rfl) (by obtain rfl := Option.some.inj h; exact ⟨rfl, h_p19, rfl⟩)
      replace h := ifN h hk18
      refine vg_tabD (pc := 29) (t := 116) (lo := 0) (hi := 6) (dK D_Mo_page_0 17 rfl) ha2 (by omega) rfl ?_
      refine vg_iconst (pc := 116) (dK D_Mo_page_1 0 rfl) ?_
      exact vg_iretI (pc := 117) (r := (-1)) (dK D_Mo_page_1 1 rfl) rfl (leK rfl) (leK rfl) (fun _ => rfl) (by obtain rfl := Option.some.inj h; exact ⟨rfl, (inRk rfl), rfl⟩)
  · replace h := ifN h hc3
    refine vg_iconst (pc := 14) (dK D_Mo_page_0 8 rfl) ?_
    refine g_goto (pc := 15) (tgt := 19) (dK D_Mo_page_0 9 rfl) rfl ?_
    refine vg_iconst (pc := 19) (dK D_Mo_page_0 11 rfl) ?_
    refine bnE h (fun p20 e_p20 h => ?_)
    refine vg_cV (pc := 20) (As := [V 1, V 1]) (rest := []) (mc' := 0) (ms' := 0) (dK D_Mo_page_0 12 rfl) K_Mo_125 (fitK rfl) (ltK rfl) hc0 rfl (leK rfl) (leK rfl) (leK rfl) (tf_Mo_throwsIf hc0 (inRk rfl) (inRk rfl) e_p20) (kcB ?_)
    refine vg_ifB_eq (pc := 23) (b := p20.1) (t := 28) (dK D_Mo_page_0 13 rfl) rfl (fun hc21 => ?_) (fun hc21 => ?_)
    · replace h := ifP h hc21
      refine vg_iconst (pc := 26) (dK D_Mo_page_0 14 rfl) ?_
      exact vg_iretI (pc := 27) (r := 0) (dK D_Mo_page_0 15 rfl) rfl (leK rfl) (leK rfl) (fun _ => rfl) (by obtain rfl := Option.some.inj h; exact ⟨rfl, (inRk rfl), rfl⟩)
    · replace h := ifN h hc21
      refine g_iloadn (pc := 28) (i0 := 2) (j := 2) (dK D_Mo_page_0 16 rfl) rfl rfl ?_
      by_cases hk22 : a2 = 0
      · have h := ifP h hk22
        refine vg_tabK (pc := 29) (kk := 0) (t := 72) (dK D_Mo_page_0 17 rfl) hk22 rfl rfl rfl rfl ?_
        refine g_iloadn (pc := 72) (i0 := 1) (j := 1) (dK D_Mo_page_0 18 rfl) rfl rfl ?_
        refine vg_iconst (pc := 73) (dK D_Mo_page_0 19 rfl) ?_
        refine vg_idiv (pc := 74) (dK D_Mo_page_0 20 rfl) ha1 (inRk rfl) (by decide) ?_
        refine gtop (x := (wr (a1.tdiv 2))) rfl ?_
        exact vg_iretI (pc := 75) (r := (wr (a1.tdiv 2))) (dK D_Mo_page_0 21 rfl) rfl (leK rfl) (leK rfl) (fun _ => rfl) (by obtain rfl := Option.some.inj h; exact ⟨rfl, (wr_in _), rfl⟩)
      replace h := ifN h hk22
      by_cases hk23 : a2 = 1
      · have h := ifP h hk23
        refine vg_tabK (pc := 29) (kk := 1) (t := 76) (dK D_Mo_page_0 17 rfl) hk23 rfl rfl rfl rfl ?_
        refine g_iloadn (pc := 76) (i0 := 1) (j := 1) (dK D_Mo_page_0 22 rfl) rfl rfl ?_
        refine vg_iconst (pc := 77) (dK D_Mo_page_0 23 rfl) ?_
        refine vg_isub (pc := 78) (dK D_Mo_page_0 24 rfl) ?_
        refine g_aloadn (pc := 79) (i0 := 0) (j := 0) (dK D_Mo_page_0 25 rfl) rfl rfl ?_
        refine vg_getI (pc := 80) (ci := 11) (f := 2) (dK D_Mo_page_0 26 rfl) q_1444 hc0 (ltK rfl) (ltK rfl) rfl ?_
        refine nmE h (fun v24 e_v24 h => ?_)
        refine gsk (st' := [V (g p20.2 c0 2), V v24]) (by rw [Vn e_v24]) ?_
        refine gdE h (fun hp25 h => ?_)
        refine vg_idiv (pc := 83) (dK D_Mo_page_0 27 rfl) (Vn_in e_v24) (g_in _ _ _) hp25 ?_
        refine gtop (x := (wr (v24.tdiv (g p20.2 c0 2)))) rfl ?_
        exact vg_iretI (pc := 84) (r := (wr (v24.tdiv (g p20.2 c0 2)))) (dK D_Mo_page_0 28 rfl) rfl (leK rfl) (leK rfl) (fun _ => rfl) (by obtain rfl := Option.some.inj h; exact ⟨rfl, (wr_in _), rfl⟩)
      replace h := ifN h hk23
      by_cases hk26 : a2 = 2
      · have h := ifP h hk26
        refine vg_tabK (pc := 29) (kk := 2) (t := 85) (dK D_Mo_page_0 17 rfl) hk26 rfl rfl rfl rfl ?_
        refine g_aloadn (pc := 85) (i0 := 0) (j := 0) (dK D_Mo_page_0 29 rfl) rfl rfl ?_
        refine g_iloadn (pc := 86) (i0 := 1) (j := 1) (dK D_Mo_page_0 30 rfl) rfl rfl ?_
        refine bnE h (fun p27 e_p27 h => ?_)
        refine vg_cV (pc := 87) (As := [V a1]) (rest := []) (mc' := 0) (ms' := 0) (dK D_Mo_page_0 31 rfl) K_Mo_74 (fitK rfl) (ltK rfl) hc0 rfl (leK rfl) (leK rfl) (leK rfl) (tf_Mo_formOf hc0 ha1 e_p27) (kcI (fun h_p27 => ?_))
        exact vg_iretI (pc := 90) (r := p27) (dK D_Mo_page_0 32 rfl) rfl (leK rfl) (leK rfl) (fun _ => rfl) (by obtain rfl := Option.some.inj h; exact ⟨rfl, h_p27, rfl⟩)
      replace h := ifN h hk26
      by_cases hk28 : a2 = 3
      · have h := ifP h hk28
        refine vg_tabK (pc := 29) (kk := 3) (t := 91) (dK D_Mo_page_0 17 rfl) hk28 rfl rfl rfl rfl ?_
        refine g_aloadn (pc := 91) (i0 := 0) (j := 0) (dK D_Mo_page_0 33 rfl) rfl rfl ?_
        refine g_iloadn (pc := 92) (i0 := 1) (j := 1) (dK D_Mo_page_0 34 rfl) rfl rfl ?_
        refine bnE h (fun p29 e_p29 h => ?_)
        refine vg_cV (pc := 93) (As := [V a1]) (rest := []) (mc' := 0) (ms' := 0) (dK D_Mo_page_0 35 rfl) K_Mo_184 (fitK rfl) (ltK rfl) hc0 rfl (leK rfl) (leK rfl) (leK rfl) (tf_Mo_left hc0 ha1 e_p29) (kcI (fun h_p29 => ?_))
        exact vg_iretI (pc := 96) (r := p29) (dK D_Mo_page_0 36 rfl) rfl (leK rfl) (leK rfl) (fun _ => rfl) (by obtain rfl := Option.some.inj h; exact ⟨rfl, h_p29, rfl⟩)
      replace h := ifN h hk28
      by_cases hk30 : a2 = 4
      · have h := ifP h hk30
        refine vg_tabK (pc := 29) (kk := 4) (t := 97) (dK D_Mo_page_0 17 rfl) hk30 rfl rfl rfl rfl ?_
        refine g_aloadn (pc := 97) (i0 := 0) (j := 0) (dK D_Mo_page_0 37 rfl) rfl rfl ?_
        refine g_iloadn (pc := 98) (i0 := 1) (j := 1) (dK D_Mo_page_0 38 rfl) rfl rfl ?_
        refine bnE h (fun p31 e_p31 h => ?_)
        refine vg_cV (pc := 99) (As := [V a1]) (rest := []) (mc' := 0) (ms' := 0) (dK D_Mo_page_0 39 rfl) K_Mo_187 (fitK rfl) (ltK rfl) hc0 rfl (leK rfl) (leK rfl) (leK rfl) (tf_Mo_adsOn hc0 ha1 e_p31) (kcI (fun h_p31 => ?_))
        exact vg_iretI (pc := 102) (r := p31) (dK D_Mo_page_0 40 rfl) rfl (leK rfl) (leK rfl) (fun _ => rfl) (by obtain rfl := Option.some.inj h; exact ⟨rfl, h_p31, rfl⟩)
      replace h := ifN h hk30
      by_cases hk32 : a2 = 5
      · have h := ifP h hk32
        refine vg_tabK (pc := 29) (kk := 5) (t := 103) (dK D_Mo_page_0 17 rfl) hk32 rfl rfl rfl rfl ?_
        refine g_aloadn (pc := 103) (i0 := 0) (j := 0) (dK D_Mo_page_0 41 rfl) rfl rfl ?_
        refine g_iloadn (pc := 104) (i0 := 1) (j := 1) (dK D_Mo_page_0 42 rfl) rfl rfl ?_
        refine vg_iconst (pc := 105) (dK D_Mo_page_0 43 rfl) ?_
        refine bnE h (fun p33 e_p33 h => ?_)
        refine vg_cV (pc := 106) (As := [V a1, V (-1)]) (rest := []) (mc' := 0) (ms' := 0) (dK D_Mo_page_0 44 rfl) K_Mo_95 (fitK rfl) (ltK rfl) hc0 rfl (leK rfl) (leK rfl) (leK rfl) (tf_Mo_storyOn hc0 ha1 (inRk rfl) e_p33) (kcI (fun h_p33 => ?_))
        exact vg_iretI (pc := 109) (r := p33) (dK D_Mo_page_0 45 rfl) rfl (leK rfl) (leK rfl) (fun _ => rfl) (by obtain rfl := Option.some.inj h; exact ⟨rfl, h_p33, rfl⟩)
      replace h := ifN h hk32
      by_cases hk34 : a2 = 6
      · have h := ifP h hk34
        refine vg_tabK (pc := 29) (kk := 6) (t := 110) (dK D_Mo_page_0 17 rfl) hk34 rfl rfl rfl rfl ?_
        refine g_aloadn (pc := 110) (i0 := 0) (j := 0) (dK D_Mo_page_0 46 rfl) rfl rfl ?_
        refine g_iloadn (pc := 111) (i0 := 1) (j := 1) (dK D_Mo_page_0 47 rfl) rfl rfl ?_
        refine bnE h (fun p35 e_p35 h => ?_)
        refine vg_cV (pc := 112) (As := [V a1]) (rest := []) (mc' := 0) (ms' := 0) (dK D_Mo_page_0 48 rfl) K_Mo_190 (fitK rfl) (ltK rfl) hc0 rfl (leK rfl) (leK rfl) (leK rfl) (tf_Mo_standbysOn hc0 ha1 e_p35) (kcI (fun h_p35 => ?_))
        exact vg_iretI (pc := 115) (r := p35) (dK D_Mo_page_0 49 rfl) rfl (leK rfl) (leK rfl) (fun _ => rfl) (by obtain rfl := Option.some.inj h; exact ⟨rfl, h_p35, rfl⟩)
      replace h := ifN h hk34
      refine vg_tabD (pc := 29) (t := 116) (lo := 0) (hi := 6) (dK D_Mo_page_0 17 rfl) ha2 (by omega) rfl ?_
      refine vg_iconst (pc := 116) (dK D_Mo_page_1 0 rfl) ?_
      exact vg_iretI (pc := 117) (r := (-1)) (dK D_Mo_page_1 1 rfl) rfl (leK rfl) (leK rfl) (fun _ => rfl) (by obtain rfl := Option.some.inj h; exact ⟨rfl, (inRk rfl), rfl⟩)
def lb_Mo_adOn_33 (c0 : Nat) (a1 : Int) (S : St) (go : Int × Int → Option ((Int) ⊕ (Unit))) (a3 : Int) (a4 : Int) : Option ((Int) ⊕ (Unit)) := if (g S (tgt c0 0) 1) ≤ a4 then (some (.inr ())) else (bnO (fn_Mo_ofAd c0 a4 6 S) fun p6 => if p6 = a1 then (if a3 = 0 then (some (.inl a4)) else (nm (wr (a3 + (-1))) fun v7 => nm (wr (a4 + 1)) fun v8 => go (v7, v8))) else (nm (wr (a4 + 1)) fun v10 => go (a3, v10)))
def lo_Mo_adOn_33 (c0 : Nat) (a1 : Int) (S : St) : Nat → Int × Int → Option ((Int) ⊕ (Unit)) := lp fun go p => lb_Mo_adOn_33 c0 a1 S go p.1 p.2
theorem tl_Mo_adOn_33 {E : EV} {X : XT} {c0 : Nat} (hc0 : HC X 11 c0) {a1 : Int} (ha1 : inR a1) {S : St} {K : RK → PS → Prop} {q : (Int) ⊕ (Unit)} (hx : ∀ p, q = .inr p → Go E M_Mo_adOn 0 0 75 [] [] (WX X S) 0 0 K) (hr : ∀ p, q = .inl p → inR p → K (.inl (some (V p))) (WX X S)) : ∀ n a, lo_Mo_adOn_33 c0 a1 S n a = some q → inR a.1 → inR a.2 → Go E M_Mo_adOn 0 0 33 [(0, .ref c0), (1, V a1), (3, V a.1), (4, V a.2)] [] (WX X S) 0 0 K := by
  refine lp_ind (P := fun a : Int × Int => inR a.1 → inR a.2 → Go E M_Mo_adOn 0 0 33 [(0, .ref c0), (1, V a1), (3, V a.1), (4, V a.2)] [] (WX X S) 0 0 K) (fun go ih a h => ?_)
  obtain ⟨a3, a4⟩ := a
  intro ha3 ha4
  show Go E M_Mo_adOn 0 0 33 [(0, .ref c0), (1, V a1), (3, V a3), (4, V a4)] [] (WX X S) 0 0 K
  replace h : lb_Mo_adOn_33 c0 a1 S go a3 a4 = some q := h
  unfold lb_Mo_adOn_33 at h
  refine g_iload (pc := 33) (j := 3) (dK D_Mo_adOn 20 rfl) rfl ?_
  refine g_aloadn (pc := 35) (i0 := 0) (j := 0) (dK D_Mo_adOn 21 rfl) rfl rfl ?_
  refine vg_getA (pc := 36) (ci := 11) (f := 0) (dK D_Mo_adOn 22 rfl) q_1442 hc0 (ltK rfl) (ltK rfl) rfl ?_
  refine vg_iconst (pc := 39) (dK D_Mo_adOn 23 rfl) ?_
  refine vg_iaload (pc := 40) (j := 1) (dK D_Mo_adOn 24 rfl) (hw_11_0 hc0) rfl ⟨by decide, by decide⟩ rfl ?_
  refine vg_icmp_ge (pc := 41) (t := 75) (dK D_Mo_adOn 25 rfl) rfl ha4 (g_in _ _ _) (fun hc12 => ?_) (fun hc12 => ?_)
  · replace h := ifP h hc12
    refine gL_weak (ls' := []) sbn ?_
    exact hx _ (Option.some.inj h).symm 
  · replace h := ifN h hc12
    refine g_aloadn (pc := 44) (i0 := 0) (j := 0) (dK D_Mo_adOn 26 rfl) rfl rfl ?_
    refine g_iload (pc := 45) (j := 3) (dK D_Mo_adOn 27 rfl) rfl ?_
    refine vg_bipush (pc := 47) (dK D_Mo_adOn 28 rfl) rfl ?_
    refine bnE h (fun p6 e_p6 h => ?_)
    refine vg_cV (pc := 49) (As := [V a4, V 6]) (rest := []) (mc' := 0) (ms' := 0) (dK D_Mo_adOn 29 rfl) K_Mo_82 (fitK rfl) (ltK rfl) hc0 rfl (leK rfl) (leK rfl) (leK rfl) (tf_Mo_ofAd hc0 ha4 (inRk rfl) e_p6) (kcI (fun h_p6 => ?_))
    refine g_iloadn (pc := 52) (i0 := 1) (j := 1) (dK D_Mo_adOn 30 rfl) rfl rfl ?_
    refine vg_icmp_eq (pc := 53) (t := 59) (dK D_Mo_adOn 31 rfl) rfl h_p6 ha1 (fun hc11 => ?_) (fun hc11 => ?_)
    · replace h := ifP h hc11
      refine g_iloadn (pc := 59) (i0 := 3) (j := 2) (dK D_Mo_adOn 33 rfl) rfl rfl ?_
      refine vg_if_ne (pc := 60) (t := 66) (dK D_Mo_adOn 34 rfl) rfl ha3 (fun hc9 => ?_) (fun hc9 => ?_)
      · replace h := ifN h hc9
        refine nmE h (fun v7 e_v7 h => ?_)
        refine vg_iinc (pc := 66) (j := 2) (a := a3) (z := -1) (ls2 := [(3, V v7), (0, .ref c0), (1, V a1), (4, V a4)]) (dK D_Mo_adOn 37 rfl) rfl e_v7 (ltK rfl) rfl ?_
        refine nmE h (fun v8 e_v8 h => ?_)
        refine vg_iinc (pc := 69) (j := 3) (a := a4) (z := 1) (ls2 := [(4, V v8), (3, V v7), (0, .ref c0), (1, V a1)]) (dK D_Mo_adOn 38 rfl) rfl e_v8 (ltK rfl) rfl ?_
        refine g_goto (pc := 72) (tgt := 33) (dK D_Mo_adOn 39 rfl) rfl ?_
        refine gL_weak (ls' := [(0, .ref c0), (1, V a1), (3, V v7), (4, V v8)]) (sbc 2 rfl (sbc 3 rfl (sbc 1 rfl (sbc 0 rfl sbn)))) ?_
        replace h := ih _ h
        exact h (Vn_in e_v7) (Vn_in e_v8)
      · replace h := ifP h hc9
        refine g_iload (pc := 63) (j := 3) (dK D_Mo_adOn 35 rfl) rfl ?_
        exact vg_iretI (pc := 65) (r := a4) (dK D_Mo_adOn 36 rfl) rfl (leK rfl) (leK rfl) (fun _ => rfl) (hr _ (Option.some.inj h).symm ha4)
    · replace h := ifN h hc11
      refine g_goto (pc := 56) (tgt := 69) (dK D_Mo_adOn 32 rfl) rfl ?_
      refine nmE h (fun v10 e_v10 h => ?_)
      refine vg_iinc (pc := 69) (j := 3) (a := a4) (z := 1) (ls2 := [(4, V v10), (0, .ref c0), (1, V a1), (3, V a3)]) (dK D_Mo_adOn 38 rfl) rfl e_v10 (ltK rfl) rfl ?_
      refine g_goto (pc := 72) (tgt := 33) (dK D_Mo_adOn 39 rfl) rfl ?_
      refine gL_weak (ls' := [(0, .ref c0), (1, V a1), (3, V a3), (4, V v10)]) (sbc 1 rfl (sbc 2 rfl (sbc 3 rfl (sbc 0 rfl sbn)))) ?_
      replace h := ih _ h
      exact h ha3 (Vn_in e_v10)
def fn_Mo_adOn (c0 : Nat) (a1 : Int) (a2 : Int) (S : St) : Option (Int × St) := nm (u S c0 4 0) fun S1 => bnO (fn_Mo_isPage c0 a1 S1) fun p2 => if p2 = true then (bnO (fn_Mo_throwsIf c0 0 1 S1) fun p4 => if p4.1 = true then (some (0, p4.2)) else (bnS (lo_Mo_adOn_33 c0 a1 p4.2 FU (a2, 0)) (fun p14 => some (p14, p4.2)) fun p13 => some ((-1), p4.2))) else (bnO (fn_Mo_throwsIf c0 1 1 S1) fun p15 => if p15.1 = true then (some (0, p15.2)) else (bnS (lo_Mo_adOn_33 c0 a1 p15.2 FU (a2, 0)) (fun p18 => some (p18, p15.2)) fun p17 => some ((-1), p15.2)))
theorem tf_Mo_adOn {E : EV} {X : XT} {c0 : Nat} (hc0 : HC X 11 c0) {a1 : Int} (ha1 : inR a1) {a2 : Int} (ha2 : inR a2) {S : St} {q : Int × St} (h : fn_Mo_adOn c0 a1 a2 S = some q) : Ev E M_Mo_adOn [.ref c0, V a1, V a2] (WX X S) 0 0 (KI X q.1 q.2) := by
  refine Ev.of pn_Mo rfl (leK rfl) ?_
  show Go E M_Mo_adOn 0 0 0 [(0, .ref c0), (1, V a1), (2, V a2)] [] (WX X S) 0 0 (KI X q.1 q.2)
  unfold fn_Mo_adOn at h
  refine g_aloadn (pc := 0) (i0 := 0) (j := 0) (dK D_Mo_adOn 0 rfl) rfl rfl ?_
  refine vg_iconst (pc := 1) (dK D_Mo_adOn 1 rfl) ?_
  refine nmE h (fun S1 e_S1 h => ?_)
  refine vg_putI (pc := 2) (ci := 11) (f := 4) (z := 0) (dK D_Mo_adOn 2 rfl) q_1446 hc0 (ltK rfl) (ltK rfl) rfl rfl e_S1 ?_
  refine g_aloadn (pc := 5) (i0 := 0) (j := 0) (dK D_Mo_adOn 3 rfl) rfl rfl ?_
  refine g_aloadn (pc := 6) (i0 := 0) (j := 0) (dK D_Mo_adOn 4 rfl) rfl rfl ?_
  refine g_iloadn (pc := 7) (i0 := 1) (j := 1) (dK D_Mo_adOn 5 rfl) rfl rfl ?_
  refine bnE h (fun p2 e_p2 h => ?_)
  refine vg_cV (pc := 8) (As := [V a1]) (rest := [.ref c0]) (mc' := 0) (ms' := 0) (dK D_Mo_adOn 6 rfl) K_Mo_105 (fitK rfl) (ltK rfl) hc0 rfl (leK rfl) (leK rfl) (leK rfl) (tf_Mo_isPage hc0 ha1 e_p2) (kcB ?_)
  refine vg_ifB_ne (pc := 11) (b := p2) (t := 18) (dK D_Mo_adOn 7 rfl) rfl (fun hc3 => ?_) (fun hc3 => ?_)
  · replace h := ifP h hc3
    refine vg_iconst (pc := 18) (dK D_Mo_adOn 10 rfl) ?_
    refine vg_iconst (pc := 19) (dK D_Mo_adOn 11 rfl) ?_
    refine bnE h (fun p4 e_p4 h => ?_)
    refine vg_cV (pc := 20) (As := [V 0, V 1]) (rest := []) (mc' := 0) (ms' := 0) (dK D_Mo_adOn 12 rfl) K_Mo_125 (fitK rfl) (ltK rfl) hc0 rfl (leK rfl) (leK rfl) (leK rfl) (tf_Mo_throwsIf hc0 (inRk rfl) (inRk rfl) e_p4) (kcB ?_)
    refine vg_ifB_eq (pc := 23) (b := p4.1) (t := 28) (dK D_Mo_adOn 13 rfl) rfl (fun hc5 => ?_) (fun hc5 => ?_)
    · replace h := ifP h hc5
      refine vg_iconst (pc := 26) (dK D_Mo_adOn 14 rfl) ?_
      exact vg_iretI (pc := 27) (r := 0) (dK D_Mo_adOn 15 rfl) rfl (leK rfl) (leK rfl) (fun _ => rfl) (by obtain rfl := Option.some.inj h; exact ⟨rfl, (inRk rfl), rfl⟩)
    · replace h := ifN h hc5
      refine g_iloadn (pc := 28) (i0 := 2) (j := 2) (dK D_Mo_adOn 16 rfl) rfl rfl ?_
      refine g_istoren (pc := 29) (i0 := 3) (ls2 := [(3, V a2), (0, .ref c0), (1, V a1), (2, V a2)]) (dK D_Mo_adOn 17 rfl) rfl (ltK rfl) rfl ?_
      refine vg_iconst (pc := 30) (dK D_Mo_adOn 18 rfl) ?_
      refine g_istore (pc := 31) (ls2 := [(4, V 0), (3, V a2), (0, .ref c0), (1, V a1), (2, V a2)]) (dK D_Mo_adOn 19 rfl) (ltK rfl) rfl ?_
      refine bnSE h (fun p14 e_p14 h => ?_) (fun p13 e_p13 h => ?_)
      · refine gL_weak (ls' := [(0, .ref c0), (1, V a1), (3, V a2), (4, V 0)]) (sbc 2 rfl (sbc 3 rfl (sbc 1 rfl (sbc 0 rfl sbn)))) ?_
        refine tl_Mo_adOn_33 hc0 ha1 (fun _ e => slr e) (fun p e hr_p14 => ?_) FU (a2, 0) e_p14 ha2 (inRk rfl)
        have e := Sum.inl.inj e
        subst e
        exact (by obtain rfl := Option.some.inj h; exact ⟨rfl, hr_p14, rfl⟩)
      · refine gL_weak (ls' := [(0, .ref c0), (1, V a1), (3, V a2), (4, V 0)]) (sbc 2 rfl (sbc 3 rfl (sbc 1 rfl (sbc 0 rfl sbn)))) ?_
        refine tl_Mo_adOn_33 hc0 ha1 (fun p e => ?_) (fun _ e => srl e) FU (a2, 0) e_p13 ha2 (inRk rfl)
        have e := Sum.inr.inj e
        subst e
        refine vg_iconst (pc := 75) (dK D_Mo_adOn 40 rfl) ?_
        exact vg_iretI (pc := 76) (r := (-1)) (dK D_Mo_adOn 41 rfl) rfl (leK rfl) (leK rfl) (fun _ => rfl) (by obtain rfl := Option.some.inj h; exact ⟨rfl, (inRk rfl), rfl⟩)
  · replace h := ifN h hc3
    refine vg_iconst (pc := 14) (dK D_Mo_adOn 8 rfl) ?_
    refine g_goto (pc := 15) (tgt := 19) (dK D_Mo_adOn 9 rfl) rfl ?_
    refine vg_iconst (pc := 19) (dK D_Mo_adOn 11 rfl) ?_
    refine bnE h (fun p15 e_p15 h => ?_)
    refine vg_cV (pc := 20) (As := [V 1, V 1]) (rest := []) (mc' := 0) (ms' := 0) (dK D_Mo_adOn 12 rfl) K_Mo_125 (fitK rfl) (ltK rfl) hc0 rfl (leK rfl) (leK rfl) (leK rfl) (tf_Mo_throwsIf hc0 (inRk rfl) (inRk rfl) e_p15) (kcB ?_)
    refine vg_ifB_eq (pc := 23) (b := p15.1) (t := 28) (dK D_Mo_adOn 13 rfl) rfl (fun hc16 => ?_) (fun hc16 => ?_)
    · replace h := ifP h hc16
      refine vg_iconst (pc := 26) (dK D_Mo_adOn 14 rfl) ?_
      exact vg_iretI (pc := 27) (r := 0) (dK D_Mo_adOn 15 rfl) rfl (leK rfl) (leK rfl) (fun _ => rfl) (by obtain rfl := Option.some.inj h; exact ⟨rfl, (inRk rfl), rfl⟩)
    · replace h := ifN h hc16
      refine g_iloadn (pc := 28) (i0 := 2) (j := 2) (dK D_Mo_adOn 16 rfl) rfl rfl ?_
      refine g_istoren (pc := 29) (i0 := 3) (ls2 := [(3, V a2), (0, .ref c0), (1, V a1), (2, V a2)]) (dK D_Mo_adOn 17 rfl) rfl (ltK rfl) rfl ?_
      refine vg_iconst (pc := 30) (dK D_Mo_adOn 18 rfl) ?_
      refine g_istore (pc := 31) (ls2 := [(4, V 0), (3, V a2), (0, .ref c0), (1, V a1), (2, V a2)]) (dK D_Mo_adOn 19 rfl) (ltK rfl) rfl ?_
      refine bnSE h (fun p18 e_p18 h => ?_) (fun p17 e_p17 h => ?_)
      · refine gL_weak (ls' := [(0, .ref c0), (1, V a1), (3, V a2), (4, V 0)]) (sbc 2 rfl (sbc 3 rfl (sbc 1 rfl (sbc 0 rfl sbn)))) ?_
        refine tl_Mo_adOn_33 hc0 ha1 (fun _ e => slr e) (fun p e hr_p18 => ?_) FU (a2, 0) e_p18 ha2 (inRk rfl)
        have e := Sum.inl.inj e
        subst e
        exact (by obtain rfl := Option.some.inj h; exact ⟨rfl, hr_p18, rfl⟩)
      · refine gL_weak (ls' := [(0, .ref c0), (1, V a1), (3, V a2), (4, V 0)]) (sbc 2 rfl (sbc 3 rfl (sbc 1 rfl (sbc 0 rfl sbn)))) ?_
        refine tl_Mo_adOn_33 hc0 ha1 (fun p e => ?_) (fun _ e => srl e) FU (a2, 0) e_p17 ha2 (inRk rfl)
        have e := Sum.inr.inj e
        subst e
        refine vg_iconst (pc := 75) (dK D_Mo_adOn 40 rfl) ?_
        exact vg_iretI (pc := 76) (r := (-1)) (dK D_Mo_adOn 41 rfl) rfl (leK rfl) (leK rfl) (fun _ => rfl) (by obtain rfl := Option.some.inj h; exact ⟨rfl, (inRk rfl), rfl⟩)
def fn_Mo_isForm (c0 : Nat) (a1 : Int) (S : St) : Option (Bool) := bnO (fn_Mo_formMany c0 S) fun p1 => nm (wr (p1 - 1)) fun v2 => bnO (fn_Mo_inRange a1 0 v2 S) fun p3 => some p3
theorem tf_Mo_isForm {E : EV} {X : XT} {c0 : Nat} (hc0 : HC X 11 c0) {a1 : Int} (ha1 : inR a1) {S : St} {q : Bool} (h : fn_Mo_isForm c0 a1 S = some q) : Ev E M_Mo_isForm [.ref c0, V a1] (WX X S) 0 0 (KB X q S) := by
  refine Ev.of pn_Mo rfl (leK rfl) ?_
  show Go E M_Mo_isForm 0 0 0 [(0, .ref c0), (1, V a1)] [] (WX X S) 0 0 (KB X q S)
  unfold fn_Mo_isForm at h
  refine g_iloadn (pc := 0) (i0 := 1) (j := 1) (dK D_Mo_isForm 0 rfl) rfl rfl ?_
  refine vg_i2l (pc := 1) (dK D_Mo_isForm 1 rfl) ha1 ?_
  refine vg_lconst (pc := 2) (y := 0) (dK D_Mo_isForm 2 rfl) rfl ?_
  refine g_aloadn (pc := 3) (i0 := 0) (j := 0) (dK D_Mo_isForm 3 rfl) rfl rfl ?_
  refine bnE h (fun p1 e_p1 h => ?_)
  refine vg_cV (pc := 4) (As := []) (rest := [J 0, J a1]) (mc' := 0) (ms' := 0) (dK D_Mo_isForm 4 rfl) K_Mo_71 (fitK rfl) (ltK rfl) hc0 rfl (leK rfl) (leK rfl) (leK rfl) (tf_Mo_formMany hc0 e_p1) (kcI (fun h_p1 => ?_))
  refine vg_iconst (pc := 7) (dK D_Mo_isForm 5 rfl) ?_
  refine vg_isub (pc := 8) (dK D_Mo_isForm 6 rfl) ?_
  refine nmE h (fun v2 e_v2 h => ?_)
  refine gtop e_v2 ?_
  refine vg_i2l (pc := 9) (dK D_Mo_isForm 7 rfl) (Vn_in e_v2) ?_
  refine bnE h (fun p3 e_p3 h => ?_)
  refine vg_cS (pc := 10) (As := [J a1, J 0, J v2]) (rest := []) (mc' := 0) (ms' := 0) (dK D_Mo_isForm 8 rfl) K_Mo_67 (fitK rfl) rfl (leK rfl) (leK rfl) (leK rfl) (tf_Mo_inRange (inR_L ha1) (inLk rfl) (inR_L (Vn_in e_v2)) e_p3) (kcB ?_)
  exact vg_iretB (pc := 13) (b := p3) (dK D_Mo_isForm 9 rfl) rfl (leK rfl) (leK rfl) (fun _ => rfl) (by obtain rfl := Option.some.inj h; exact ⟨rfl, rfl⟩)
def lb_Mo_leftOnForm_4 (c0 : Nat) (a1 : Int) (S : St) (go : Int × Int → Option (Int)) (a2 : Int) (a3 : Int) : Option (Int) := bnO (fn_Mo_pageMany c0 S) fun p1 => if p1 < a3 then (some a2) else (bnO (fn_Mo_formOf c0 a3 S) fun p2 => if p2 = a1 then (bnO (fn_Mo_left c0 a3 S) fun p5 => nm (wr (a2 + p5)) fun v6 => nm (wr (a3 + 1)) fun v7 => go (v6, v7)) else (nm (wr (a2 + 0)) fun v3 => nm (wr (a3 + 1)) fun v4 => go (v3, v4)))
def lo_Mo_leftOnForm_4 (c0 : Nat) (a1 : Int) (S : St) : Nat → Int × Int → Option (Int) := lp fun go p => lb_Mo_leftOnForm_4 c0 a1 S go p.1 p.2
theorem tl_Mo_leftOnForm_4 {E : EV} {X : XT} {c0 : Nat} (hc0 : HC X 11 c0) {a1 : Int} (ha1 : inR a1) {S : St} {K : RK → PS → Prop} {q : Int} (hx : inR q → Go E M_Mo_leftOnForm 0 0 39 [(2, V q)] [] (WX X S) 0 0 K) : ∀ n a, lo_Mo_leftOnForm_4 c0 a1 S n a = some q → inR a.1 → inR a.2 → Go E M_Mo_leftOnForm 0 0 4 [(0, .ref c0), (1, V a1), (2, V a.1), (3, V a.2)] [] (WX X S) 0 0 K := by
  refine lp_ind (P := fun a : Int × Int => inR a.1 → inR a.2 → Go E M_Mo_leftOnForm 0 0 4 [(0, .ref c0), (1, V a1), (2, V a.1), (3, V a.2)] [] (WX X S) 0 0 K) (fun go ih a h => ?_)
  obtain ⟨a2, a3⟩ := a
  intro ha2 ha3
  show Go E M_Mo_leftOnForm 0 0 4 [(0, .ref c0), (1, V a1), (2, V a2), (3, V a3)] [] (WX X S) 0 0 K
  replace h : lb_Mo_leftOnForm_4 c0 a1 S go a2 a3 = some q := h
  unfold lb_Mo_leftOnForm_4 at h
  refine g_iloadn (pc := 4) (i0 := 3) (j := 3) (dK D_Mo_leftOnForm 4 rfl) rfl rfl ?_
  refine g_aloadn (pc := 5) (i0 := 0) (j := 0) (dK D_Mo_leftOnForm 5 rfl) rfl rfl ?_
  refine bnE h (fun p1 e_p1 h => ?_)
  refine vg_cV (pc := 6) (As := []) (rest := [V a3]) (mc' := 0) (ms' := 0) (dK D_Mo_leftOnForm 6 rfl) K_Mo_63 (fitK rfl) (ltK rfl) hc0 rfl (leK rfl) (leK rfl) (leK rfl) (tf_Mo_pageMany hc0 e_p1) (kcI (fun h_p1 => ?_))
  refine vg_icmp_gt (pc := 9) (t := 39) (dK D_Mo_leftOnForm 7 rfl) rfl ha3 h_p1 (fun hc9 => ?_) (fun hc9 => ?_)
  · replace h := ifP h hc9
    obtain rfl := Option.some.inj h
    refine gL_weak (ls' := [(2, V a2)]) (sbc 2 rfl sbn) ?_
    exact hx ha2
  · replace h := ifN h hc9
    refine g_iloadn (pc := 12) (i0 := 2) (j := 2) (dK D_Mo_leftOnForm 8 rfl) rfl rfl ?_
    refine g_aloadn (pc := 13) (i0 := 0) (j := 0) (dK D_Mo_leftOnForm 9 rfl) rfl rfl ?_
    refine g_iloadn (pc := 14) (i0 := 3) (j := 3) (dK D_Mo_leftOnForm 10 rfl) rfl rfl ?_
    refine bnE h (fun p2 e_p2 h => ?_)
    refine vg_cV (pc := 15) (As := [V a3]) (rest := [V a2]) (mc' := 0) (ms' := 0) (dK D_Mo_leftOnForm 11 rfl) K_Mo_74 (fitK rfl) (ltK rfl) hc0 rfl (leK rfl) (leK rfl) (leK rfl) (tf_Mo_formOf hc0 ha3 e_p2) (kcI (fun h_p2 => ?_))
    refine g_iloadn (pc := 18) (i0 := 1) (j := 1) (dK D_Mo_leftOnForm 12 rfl) rfl rfl ?_
    refine vg_icmp_ne (pc := 19) (t := 30) (dK D_Mo_leftOnForm 13 rfl) rfl h_p2 ha1 (fun hc8 => ?_) (fun hc8 => ?_)
    · replace h := ifN h hc8
      refine vg_iconst (pc := 30) (dK D_Mo_leftOnForm 18 rfl) ?_
      refine vg_iadd (pc := 31) (dK D_Mo_leftOnForm 19 rfl) ?_
      refine nmE h (fun v3 e_v3 h => ?_)
      refine gtop e_v3 ?_
      refine g_istoren (pc := 32) (i0 := 2) (ls2 := [(2, V v3), (0, .ref c0), (1, V a1), (3, V a3)]) (dK D_Mo_leftOnForm 20 rfl) rfl (ltK rfl) rfl ?_
      refine nmE h (fun v4 e_v4 h => ?_)
      refine vg_iinc (pc := 33) (j := 3) (a := a3) (z := 1) (ls2 := [(3, V v4), (2, V v3), (0, .ref c0), (1, V a1)]) (dK D_Mo_leftOnForm 21 rfl) rfl e_v4 (ltK rfl) rfl ?_
      refine g_goto (pc := 36) (tgt := 4) (dK D_Mo_leftOnForm 22 rfl) rfl ?_
      refine gL_weak (ls' := [(0, .ref c0), (1, V a1), (2, V v3), (3, V v4)]) (sbc 2 rfl (sbc 3 rfl (sbc 1 rfl (sbc 0 rfl sbn)))) ?_
      replace h := ih _ h
      exact h (Vn_in e_v3) (Vn_in e_v4)
    · replace h := ifP h hc8
      refine g_aloadn (pc := 22) (i0 := 0) (j := 0) (dK D_Mo_leftOnForm 14 rfl) rfl rfl ?_
      refine g_iloadn (pc := 23) (i0 := 3) (j := 3) (dK D_Mo_leftOnForm 15 rfl) rfl rfl ?_
      refine bnE h (fun p5 e_p5 h => ?_)
      refine vg_cV (pc := 24) (As := [V a3]) (rest := [V a2]) (mc' := 0) (ms' := 0) (dK D_Mo_leftOnForm 16 rfl) K_Mo_184 (fitK rfl) (ltK rfl) hc0 rfl (leK rfl) (leK rfl) (leK rfl) (tf_Mo_left hc0 ha3 e_p5) (kcI (fun h_p5 => ?_))
      refine g_goto (pc := 27) (tgt := 31) (dK D_Mo_leftOnForm 17 rfl) rfl ?_
      refine vg_iadd (pc := 31) (dK D_Mo_leftOnForm 19 rfl) ?_
      refine nmE h (fun v6 e_v6 h => ?_)
      refine gtop e_v6 ?_
      refine g_istoren (pc := 32) (i0 := 2) (ls2 := [(2, V v6), (0, .ref c0), (1, V a1), (3, V a3)]) (dK D_Mo_leftOnForm 20 rfl) rfl (ltK rfl) rfl ?_
      refine nmE h (fun v7 e_v7 h => ?_)
      refine vg_iinc (pc := 33) (j := 3) (a := a3) (z := 1) (ls2 := [(3, V v7), (2, V v6), (0, .ref c0), (1, V a1)]) (dK D_Mo_leftOnForm 21 rfl) rfl e_v7 (ltK rfl) rfl ?_
      refine g_goto (pc := 36) (tgt := 4) (dK D_Mo_leftOnForm 22 rfl) rfl ?_
      refine gL_weak (ls' := [(0, .ref c0), (1, V a1), (2, V v6), (3, V v7)]) (sbc 2 rfl (sbc 3 rfl (sbc 1 rfl (sbc 0 rfl sbn)))) ?_
      replace h := ih _ h
      exact h (Vn_in e_v6) (Vn_in e_v7)
def fn_Mo_leftOnForm (c0 : Nat) (a1 : Int) (S : St) : Option (Int) := bnO (lo_Mo_leftOnForm_4 c0 a1 S FU (0, 1)) fun p10 => some p10
theorem tf_Mo_leftOnForm {E : EV} {X : XT} {c0 : Nat} (hc0 : HC X 11 c0) {a1 : Int} (ha1 : inR a1) {S : St} {q : Int} (h : fn_Mo_leftOnForm c0 a1 S = some q) : Ev E M_Mo_leftOnForm [.ref c0, V a1] (WX X S) 0 0 (KI X q S) := by
  refine Ev.of pn_Mo rfl (leK rfl) ?_
  show Go E M_Mo_leftOnForm 0 0 0 [(0, .ref c0), (1, V a1)] [] (WX X S) 0 0 (KI X q S)
  unfold fn_Mo_leftOnForm at h
  refine vg_iconst (pc := 0) (dK D_Mo_leftOnForm 0 rfl) ?_
  refine g_istoren (pc := 1) (i0 := 2) (ls2 := [(2, V 0), (0, .ref c0), (1, V a1)]) (dK D_Mo_leftOnForm 1 rfl) rfl (ltK rfl) rfl ?_
  refine vg_iconst (pc := 2) (dK D_Mo_leftOnForm 2 rfl) ?_
  refine g_istoren (pc := 3) (i0 := 3) (ls2 := [(3, V 1), (2, V 0), (0, .ref c0), (1, V a1)]) (dK D_Mo_leftOnForm 3 rfl) rfl (ltK rfl) rfl ?_
  refine bnE h (fun p10 e_p10 h => ?_)
  refine gL_weak (ls' := [(0, .ref c0), (1, V a1), (2, V 0), (3, V 1)]) (sbc 2 rfl (sbc 3 rfl (sbc 1 rfl (sbc 0 rfl sbn)))) ?_
  refine tl_Mo_leftOnForm_4 hc0 ha1 (fun hx2_p10 => ?_) FU (0, 1) e_p10 (inRk rfl) (inRk rfl)
  refine g_iloadn (pc := 39) (i0 := 2) (j := 0) (dK D_Mo_leftOnForm 23 rfl) rfl rfl ?_
  exact vg_iretI (pc := 40) (r := p10) (dK D_Mo_leftOnForm 24 rfl) rfl (leK rfl) (leK rfl) (fun _ => rfl) (by obtain rfl := Option.some.inj h; exact ⟨rfl, hx2_p10, rfl⟩)
def fn_Mo_isAdOnForm (c0 : Nat) (a1 : Int) (a2 : Int) (S : St) : Option (Bool) := bnO (fn_Mo_ofAd c0 a1 6 S) fun p1 => if p1 ≤ 0 then (some false) else (bnO (fn_Mo_ofAd c0 a1 6 S) fun p2 => bnO (fn_Mo_formOf c0 p2 S) fun p3 => if p3 = a2 then (some true) else (some false))
theorem tf_Mo_isAdOnForm {E : EV} {X : XT} {c0 : Nat} (hc0 : HC X 11 c0) {a1 : Int} (ha1 : inR a1) {a2 : Int} (ha2 : inR a2) {S : St} {q : Bool} (h : fn_Mo_isAdOnForm c0 a1 a2 S = some q) : Ev E M_Mo_isAdOnForm [.ref c0, V a1, V a2] (WX X S) 0 0 (KB X q S) := by
  refine Ev.of pn_Mo rfl (leK rfl) ?_
  show Go E M_Mo_isAdOnForm 0 0 0 [(0, .ref c0), (1, V a1), (2, V a2)] [] (WX X S) 0 0 (KB X q S)
  unfold fn_Mo_isAdOnForm at h
  refine g_aloadn (pc := 0) (i0 := 0) (j := 0) (dK D_Mo_isAdOnForm 0 rfl) rfl rfl ?_
  refine g_iloadn (pc := 1) (i0 := 1) (j := 1) (dK D_Mo_isAdOnForm 1 rfl) rfl rfl ?_
  refine vg_bipush (pc := 2) (dK D_Mo_isAdOnForm 2 rfl) rfl ?_
  refine bnE h (fun p1 e_p1 h => ?_)
  refine vg_cV (pc := 4) (As := [V a1, V 6]) (rest := []) (mc' := 0) (ms' := 0) (dK D_Mo_isAdOnForm 3 rfl) K_Mo_82 (fitK rfl) (ltK rfl) hc0 rfl (leK rfl) (leK rfl) (leK rfl) (tf_Mo_ofAd hc0 ha1 (inRk rfl) e_p1) (kcI (fun h_p1 => ?_))
  refine vg_if_le (pc := 7) (t := 29) (dK D_Mo_isAdOnForm 4 rfl) rfl h_p1 (fun hc5 => ?_) (fun hc5 => ?_)
  · replace h := ifP h hc5
    refine vg_iconst (pc := 29) (dK D_Mo_isAdOnForm 15 rfl) ?_
    exact vg_iretB (pc := 30) (b := false) (dK D_Mo_isAdOnForm 16 rfl) rfl (leK rfl) (leK rfl) (fun _ => rfl) (by obtain rfl := Option.some.inj h; exact ⟨rfl, rfl⟩)
  · replace h := ifN h hc5
    refine g_aloadn (pc := 10) (i0 := 0) (j := 0) (dK D_Mo_isAdOnForm 5 rfl) rfl rfl ?_
    refine g_aloadn (pc := 11) (i0 := 0) (j := 0) (dK D_Mo_isAdOnForm 6 rfl) rfl rfl ?_
    refine g_iloadn (pc := 12) (i0 := 1) (j := 1) (dK D_Mo_isAdOnForm 7 rfl) rfl rfl ?_
    refine vg_bipush (pc := 13) (dK D_Mo_isAdOnForm 8 rfl) rfl ?_
    refine bnE h (fun p2 e_p2 h => ?_)
    refine vg_cV (pc := 15) (As := [V a1, V 6]) (rest := [.ref c0]) (mc' := 0) (ms' := 0) (dK D_Mo_isAdOnForm 9 rfl) K_Mo_82 (fitK rfl) (ltK rfl) hc0 rfl (leK rfl) (leK rfl) (leK rfl) (tf_Mo_ofAd hc0 ha1 (inRk rfl) e_p2) (kcI (fun h_p2 => ?_))
    refine bnE h (fun p3 e_p3 h => ?_)
    refine vg_cV (pc := 18) (As := [V p2]) (rest := []) (mc' := 0) (ms' := 0) (dK D_Mo_isAdOnForm 10 rfl) K_Mo_74 (fitK rfl) (ltK rfl) hc0 rfl (leK rfl) (leK rfl) (leK rfl) (tf_Mo_formOf hc0 h_p2 e_p3) (kcI (fun h_p3 => ?_))
    refine g_iloadn (pc := 21) (i0 := 2) (j := 2) (dK D_Mo_isAdOnForm 11 rfl) rfl rfl ?_
    refine vg_icmp_ne (pc := 22) (t := 29) (dK D_Mo_isAdOnForm 12 rfl) rfl h_p3 ha2 (fun hc4 => ?_) (fun hc4 => ?_)
    · replace h := ifN h hc4
      refine vg_iconst (pc := 29) (dK D_Mo_isAdOnForm 15 rfl) ?_
      exact vg_iretB (pc := 30) (b := false) (dK D_Mo_isAdOnForm 16 rfl) rfl (leK rfl) (leK rfl) (fun _ => rfl) (by obtain rfl := Option.some.inj h; exact ⟨rfl, rfl⟩)
    · replace h := ifP h hc4
      refine vg_iconst (pc := 25) (dK D_Mo_isAdOnForm 13 rfl) ?_
      refine g_goto (pc := 26) (tgt := 30) (dK D_Mo_isAdOnForm 14 rfl) rfl ?_
      exact vg_iretB (pc := 30) (b := true) (dK D_Mo_isAdOnForm 16 rfl) rfl (leK rfl) (leK rfl) (fun _ => rfl) (by obtain rfl := Option.some.inj h; exact ⟨rfl, rfl⟩)
def lb_Mo_adsOnForm_4 (c0 : Nat) (a1 : Int) (S : St) (go : Int × Int → Option (Int)) (a2 : Int) (a3 : Int) : Option (Int) := if (g S (tgt c0 0) 1) ≤ a3 then (some a2) else (bnO (fn_Mo_isAdOnForm c0 a3 a1 S) fun p1 => if p1 = true then (nm (wr (a2 + 1)) fun v5 => nm (wr (a3 + 1)) fun v6 => go (v5, v6)) else (nm (wr (a2 + 0)) fun v3 => nm (wr (a3 + 1)) fun v4 => go (v3, v4)))
def lo_Mo_adsOnForm_4 (c0 : Nat) (a1 : Int) (S : St) : Nat → Int × Int → Option (Int) := lp fun go p => lb_Mo_adsOnForm_4 c0 a1 S go p.1 p.2
theorem tl_Mo_adsOnForm_4 {E : EV} {X : XT} {c0 : Nat} (hc0 : HC X 11 c0) {a1 : Int} (ha1 : inR a1) {S : St} {K : RK → PS → Prop} {q : Int} (hx : inR q → Go E M_Mo_adsOnForm 0 0 37 [(2, V q)] [] (WX X S) 0 0 K) : ∀ n a, lo_Mo_adsOnForm_4 c0 a1 S n a = some q → inR a.1 → inR a.2 → Go E M_Mo_adsOnForm 0 0 4 [(0, .ref c0), (1, V a1), (2, V a.1), (3, V a.2)] [] (WX X S) 0 0 K := by
  refine lp_ind (P := fun a : Int × Int => inR a.1 → inR a.2 → Go E M_Mo_adsOnForm 0 0 4 [(0, .ref c0), (1, V a1), (2, V a.1), (3, V a.2)] [] (WX X S) 0 0 K) (fun go ih a h => ?_)
  obtain ⟨a2, a3⟩ := a
  intro ha2 ha3
  show Go E M_Mo_adsOnForm 0 0 4 [(0, .ref c0), (1, V a1), (2, V a2), (3, V a3)] [] (WX X S) 0 0 K
  replace h : lb_Mo_adsOnForm_4 c0 a1 S go a2 a3 = some q := h
  unfold lb_Mo_adsOnForm_4 at h
  refine g_iloadn (pc := 4) (i0 := 3) (j := 3) (dK D_Mo_adsOnForm 4 rfl) rfl rfl ?_
  refine g_aloadn (pc := 5) (i0 := 0) (j := 0) (dK D_Mo_adsOnForm 5 rfl) rfl rfl ?_
  refine vg_getA (pc := 6) (ci := 11) (f := 0) (dK D_Mo_adsOnForm 6 rfl) q_1442 hc0 (ltK rfl) (ltK rfl) rfl ?_
  refine vg_iconst (pc := 9) (dK D_Mo_adsOnForm 7 rfl) ?_
  refine vg_iaload (pc := 10) (j := 1) (dK D_Mo_adsOnForm 8 rfl) (hw_11_0 hc0) rfl ⟨by decide, by decide⟩ rfl ?_
  refine vg_icmp_ge (pc := 11) (t := 37) (dK D_Mo_adsOnForm 9 rfl) rfl ha3 (g_in _ _ _) (fun hc7 => ?_) (fun hc7 => ?_)
  · replace h := ifP h hc7
    obtain rfl := Option.some.inj h
    refine gL_weak (ls' := [(2, V a2)]) (sbc 2 rfl sbn) ?_
    exact hx ha2
  · replace h := ifN h hc7
    refine g_iloadn (pc := 14) (i0 := 2) (j := 2) (dK D_Mo_adsOnForm 10 rfl) rfl rfl ?_
    refine g_aloadn (pc := 15) (i0 := 0) (j := 0) (dK D_Mo_adsOnForm 11 rfl) rfl rfl ?_
    refine g_iloadn (pc := 16) (i0 := 3) (j := 3) (dK D_Mo_adsOnForm 12 rfl) rfl rfl ?_
    refine g_iloadn (pc := 17) (i0 := 1) (j := 1) (dK D_Mo_adsOnForm 13 rfl) rfl rfl ?_
    refine bnE h (fun p1 e_p1 h => ?_)
    refine vg_cV (pc := 18) (As := [V a3, V a1]) (rest := [V a2]) (mc' := 0) (ms' := 0) (dK D_Mo_adsOnForm 14 rfl) K_Mo_193 (fitK rfl) (ltK rfl) hc0 rfl (leK rfl) (leK rfl) (leK rfl) (tf_Mo_isAdOnForm hc0 ha3 ha1 e_p1) (kcB ?_)
    refine vg_ifB_eq (pc := 21) (b := p1) (t := 28) (dK D_Mo_adsOnForm 15 rfl) rfl (fun hc2 => ?_) (fun hc2 => ?_)
    · replace h := ifP h hc2
      refine vg_iconst (pc := 24) (dK D_Mo_adsOnForm 16 rfl) ?_
      refine g_goto (pc := 25) (tgt := 29) (dK D_Mo_adsOnForm 17 rfl) rfl ?_
      refine vg_iadd (pc := 29) (dK D_Mo_adsOnForm 19 rfl) ?_
      refine nmE h (fun v5 e_v5 h => ?_)
      refine gtop e_v5 ?_
      refine g_istoren (pc := 30) (i0 := 2) (ls2 := [(2, V v5), (0, .ref c0), (1, V a1), (3, V a3)]) (dK D_Mo_adsOnForm 20 rfl) rfl (ltK rfl) rfl ?_
      refine nmE h (fun v6 e_v6 h => ?_)
      refine vg_iinc (pc := 31) (j := 3) (a := a3) (z := 1) (ls2 := [(3, V v6), (2, V v5), (0, .ref c0), (1, V a1)]) (dK D_Mo_adsOnForm 21 rfl) rfl e_v6 (ltK rfl) rfl ?_
      refine g_goto (pc := 34) (tgt := 4) (dK D_Mo_adsOnForm 22 rfl) rfl ?_
      refine gL_weak (ls' := [(0, .ref c0), (1, V a1), (2, V v5), (3, V v6)]) (sbc 2 rfl (sbc 3 rfl (sbc 1 rfl (sbc 0 rfl sbn)))) ?_
      replace h := ih _ h
      exact h (Vn_in e_v5) (Vn_in e_v6)
    · replace h := ifN h hc2
      refine vg_iconst (pc := 28) (dK D_Mo_adsOnForm 18 rfl) ?_
      refine vg_iadd (pc := 29) (dK D_Mo_adsOnForm 19 rfl) ?_
      refine nmE h (fun v3 e_v3 h => ?_)
      refine gtop e_v3 ?_
      refine g_istoren (pc := 30) (i0 := 2) (ls2 := [(2, V v3), (0, .ref c0), (1, V a1), (3, V a3)]) (dK D_Mo_adsOnForm 20 rfl) rfl (ltK rfl) rfl ?_
      refine nmE h (fun v4 e_v4 h => ?_)
      refine vg_iinc (pc := 31) (j := 3) (a := a3) (z := 1) (ls2 := [(3, V v4), (2, V v3), (0, .ref c0), (1, V a1)]) (dK D_Mo_adsOnForm 21 rfl) rfl e_v4 (ltK rfl) rfl ?_
      refine g_goto (pc := 34) (tgt := 4) (dK D_Mo_adsOnForm 22 rfl) rfl ?_
      refine gL_weak (ls' := [(0, .ref c0), (1, V a1), (2, V v3), (3, V v4)]) (sbc 2 rfl (sbc 3 rfl (sbc 1 rfl (sbc 0 rfl sbn)))) ?_
      replace h := ih _ h
      exact h (Vn_in e_v3) (Vn_in e_v4)
def fn_Mo_adsOnForm (c0 : Nat) (a1 : Int) (S : St) : Option (Int) := bnO (lo_Mo_adsOnForm_4 c0 a1 S FU (0, 0)) fun p8 => some p8
theorem tf_Mo_adsOnForm {E : EV} {X : XT} {c0 : Nat} (hc0 : HC X 11 c0) {a1 : Int} (ha1 : inR a1) {S : St} {q : Int} (h : fn_Mo_adsOnForm c0 a1 S = some q) : Ev E M_Mo_adsOnForm [.ref c0, V a1] (WX X S) 0 0 (KI X q S) := by
  refine Ev.of pn_Mo rfl (leK rfl) ?_
  show Go E M_Mo_adsOnForm 0 0 0 [(0, .ref c0), (1, V a1)] [] (WX X S) 0 0 (KI X q S)
  unfold fn_Mo_adsOnForm at h
  refine vg_iconst (pc := 0) (dK D_Mo_adsOnForm 0 rfl) ?_
  refine g_istoren (pc := 1) (i0 := 2) (ls2 := [(2, V 0), (0, .ref c0), (1, V a1)]) (dK D_Mo_adsOnForm 1 rfl) rfl (ltK rfl) rfl ?_
  refine vg_iconst (pc := 2) (dK D_Mo_adsOnForm 2 rfl) ?_
  refine g_istoren (pc := 3) (i0 := 3) (ls2 := [(3, V 0), (2, V 0), (0, .ref c0), (1, V a1)]) (dK D_Mo_adsOnForm 3 rfl) rfl (ltK rfl) rfl ?_
  refine bnE h (fun p8 e_p8 h => ?_)
  refine gL_weak (ls' := [(0, .ref c0), (1, V a1), (2, V 0), (3, V 0)]) (sbc 2 rfl (sbc 3 rfl (sbc 1 rfl (sbc 0 rfl sbn)))) ?_
  refine tl_Mo_adsOnForm_4 hc0 ha1 (fun hx2_p8 => ?_) FU (0, 0) e_p8 (inRk rfl) (inRk rfl)
  refine g_iloadn (pc := 37) (i0 := 2) (j := 0) (dK D_Mo_adsOnForm 23 rfl) rfl rfl ?_
  exact vg_iretI (pc := 38) (r := p8) (dK D_Mo_adsOnForm 24 rfl) rfl (leK rfl) (leK rfl) (fun _ => rfl) (by obtain rfl := Option.some.inj h; exact ⟨rfl, hx2_p8, rfl⟩)
def lb_Mo_hasPageOn_5 (c0 : Nat) (a1 : Int) (a2 : Int) (S : St) (go : Int × Int → Option (Int)) (a3 : Int) (a4 : Int) : Option (Int) := bnO (fn_Mo_pageMany c0 S) fun p1 => if p1 < a4 then (some a3) else (bnO (fn_Mo_covers c0 a1 a4 S) fun p2 => if p2 = true then (bnO (fn_Mo_formOf c0 a4 S) fun p5 => if p5 = a2 then (nm (wr (a4 + 1)) fun v7 => go ((i_or a3 1), v7)) else (nm (wr (a4 + 1)) fun v6 => go ((i_or a3 0), v6))) else (nm (wr (a4 + 1)) fun v4 => go ((i_or a3 0), v4)))
def lo_Mo_hasPageOn_5 (c0 : Nat) (a1 : Int) (a2 : Int) (S : St) : Nat → Int × Int → Option (Int) := lp fun go p => lb_Mo_hasPageOn_5 c0 a1 a2 S go p.1 p.2
theorem tl_Mo_hasPageOn_5 {E : EV} {X : XT} {c0 : Nat} (hc0 : HC X 11 c0) {a1 : Int} (ha1 : inR a1) {a2 : Int} (ha2 : inR a2) {S : St} {K : RK → PS → Prop} {q : Int} (hx : inR q → Go E M_Mo_hasPageOn 0 0 48 [(3, V q)] [] (WX X S) 0 0 K) : ∀ n a, lo_Mo_hasPageOn_5 c0 a1 a2 S n a = some q → inR a.1 → inR a.2 → Go E M_Mo_hasPageOn 0 0 5 [(0, .ref c0), (1, V a1), (2, V a2), (3, V a.1), (4, V a.2)] [] (WX X S) 0 0 K := by
  refine lp_ind (P := fun a : Int × Int => inR a.1 → inR a.2 → Go E M_Mo_hasPageOn 0 0 5 [(0, .ref c0), (1, V a1), (2, V a2), (3, V a.1), (4, V a.2)] [] (WX X S) 0 0 K) (fun go ih a h => ?_)
  obtain ⟨a3, a4⟩ := a
  intro ha3 ha4
  show Go E M_Mo_hasPageOn 0 0 5 [(0, .ref c0), (1, V a1), (2, V a2), (3, V a3), (4, V a4)] [] (WX X S) 0 0 K
  replace h : lb_Mo_hasPageOn_5 c0 a1 a2 S go a3 a4 = some q := h
  unfold lb_Mo_hasPageOn_5 at h
  refine g_iload (pc := 5) (j := 4) (dK D_Mo_hasPageOn 4 rfl) rfl ?_
  refine g_aloadn (pc := 7) (i0 := 0) (j := 0) (dK D_Mo_hasPageOn 5 rfl) rfl rfl ?_
  refine bnE h (fun p1 e_p1 h => ?_)
  refine vg_cV (pc := 8) (As := []) (rest := [V a4]) (mc' := 0) (ms' := 0) (dK D_Mo_hasPageOn 6 rfl) K_Mo_63 (fitK rfl) (ltK rfl) hc0 rfl (leK rfl) (leK rfl) (leK rfl) (tf_Mo_pageMany hc0 e_p1) (kcI (fun h_p1 => ?_))
  refine vg_icmp_gt (pc := 11) (t := 48) (dK D_Mo_hasPageOn 7 rfl) rfl ha4 h_p1 (fun hc9 => ?_) (fun hc9 => ?_)
  · replace h := ifP h hc9
    obtain rfl := Option.some.inj h
    refine gL_weak (ls' := [(3, V a3)]) (sbc 3 rfl sbn) ?_
    exact hx ha3
  · replace h := ifN h hc9
    refine g_iloadn (pc := 14) (i0 := 3) (j := 3) (dK D_Mo_hasPageOn 8 rfl) rfl rfl ?_
    refine g_aloadn (pc := 15) (i0 := 0) (j := 0) (dK D_Mo_hasPageOn 9 rfl) rfl rfl ?_
    refine g_iloadn (pc := 16) (i0 := 1) (j := 1) (dK D_Mo_hasPageOn 10 rfl) rfl rfl ?_
    refine g_iload (pc := 17) (j := 4) (dK D_Mo_hasPageOn 11 rfl) rfl ?_
    refine bnE h (fun p2 e_p2 h => ?_)
    refine vg_cV (pc := 19) (As := [V a1, V a4]) (rest := [V a3]) (mc' := 0) (ms' := 0) (dK D_Mo_hasPageOn 12 rfl) K_Mo_88 (fitK rfl) (ltK rfl) hc0 rfl (leK rfl) (leK rfl) (leK rfl) (tf_Mo_covers hc0 ha1 ha4 e_p2) (kcB ?_)
    refine vg_ifB_eq (pc := 22) (b := p2) (t := 39) (dK D_Mo_hasPageOn 13 rfl) rfl (fun hc3 => ?_) (fun hc3 => ?_)
    · replace h := ifP h hc3
      refine g_aloadn (pc := 25) (i0 := 0) (j := 0) (dK D_Mo_hasPageOn 14 rfl) rfl rfl ?_
      refine g_iload (pc := 26) (j := 4) (dK D_Mo_hasPageOn 15 rfl) rfl ?_
      refine bnE h (fun p5 e_p5 h => ?_)
      refine vg_cV (pc := 28) (As := [V a4]) (rest := [V a3]) (mc' := 0) (ms' := 0) (dK D_Mo_hasPageOn 16 rfl) K_Mo_74 (fitK rfl) (ltK rfl) hc0 rfl (leK rfl) (leK rfl) (leK rfl) (tf_Mo_formOf hc0 ha4 e_p5) (kcI (fun h_p5 => ?_))
      refine g_iloadn (pc := 31) (i0 := 2) (j := 2) (dK D_Mo_hasPageOn 17 rfl) rfl rfl ?_
      refine vg_icmp_ne (pc := 32) (t := 39) (dK D_Mo_hasPageOn 18 rfl) rfl h_p5 ha2 (fun hc8 => ?_) (fun hc8 => ?_)
      · replace h := ifN h hc8
        refine vg_iconst (pc := 39) (dK D_Mo_hasPageOn 21 rfl) ?_
        refine vg_ior (pc := 40) (dK D_Mo_hasPageOn 22 rfl) ?_
        refine g_istoren (pc := 41) (i0 := 3) (ls2 := [(3, V (i_or a3 0)), (0, .ref c0), (1, V a1), (2, V a2), (4, V a4)]) (dK D_Mo_hasPageOn 23 rfl) rfl (ltK rfl) rfl ?_
        refine nmE h (fun v6 e_v6 h => ?_)
        refine vg_iinc (pc := 42) (j := 4) (a := a4) (z := 1) (ls2 := [(4, V v6), (3, V (i_or a3 0)), (0, .ref c0), (1, V a1), (2, V a2)]) (dK D_Mo_hasPageOn 24 rfl) rfl e_v6 (ltK rfl) rfl ?_
        refine g_goto (pc := 45) (tgt := 5) (dK D_Mo_hasPageOn 25 rfl) rfl ?_
        refine gL_weak (ls' := [(0, .ref c0), (1, V a1), (2, V a2), (3, V (i_or a3 0)), (4, V v6)]) (sbc 2 rfl (sbc 3 rfl (sbc 4 rfl (sbc 1 rfl (sbc 0 rfl sbn))))) ?_
        replace h := ih _ h
        exact h (toInt_in _) (Vn_in e_v6)
      · replace h := ifP h hc8
        refine vg_iconst (pc := 35) (dK D_Mo_hasPageOn 19 rfl) ?_
        refine g_goto (pc := 36) (tgt := 40) (dK D_Mo_hasPageOn 20 rfl) rfl ?_
        refine vg_ior (pc := 40) (dK D_Mo_hasPageOn 22 rfl) ?_
        refine g_istoren (pc := 41) (i0 := 3) (ls2 := [(3, V (i_or a3 1)), (0, .ref c0), (1, V a1), (2, V a2), (4, V a4)]) (dK D_Mo_hasPageOn 23 rfl) rfl (ltK rfl) rfl ?_
        refine nmE h (fun v7 e_v7 h => ?_)
        refine vg_iinc (pc := 42) (j := 4) (a := a4) (z := 1) (ls2 := [(4, V v7), (3, V (i_or a3 1)), (0, .ref c0), (1, V a1), (2, V a2)]) (dK D_Mo_hasPageOn 24 rfl) rfl e_v7 (ltK rfl) rfl ?_
        refine g_goto (pc := 45) (tgt := 5) (dK D_Mo_hasPageOn 25 rfl) rfl ?_
        refine gL_weak (ls' := [(0, .ref c0), (1, V a1), (2, V a2), (3, V (i_or a3 1)), (4, V v7)]) (sbc 2 rfl (sbc 3 rfl (sbc 4 rfl (sbc 1 rfl (sbc 0 rfl sbn))))) ?_
        replace h := ih _ h
        exact h (toInt_in _) (Vn_in e_v7)
    · replace h := ifN h hc3
      refine vg_iconst (pc := 39) (dK D_Mo_hasPageOn 21 rfl) ?_
      refine vg_ior (pc := 40) (dK D_Mo_hasPageOn 22 rfl) ?_
      refine g_istoren (pc := 41) (i0 := 3) (ls2 := [(3, V (i_or a3 0)), (0, .ref c0), (1, V a1), (2, V a2), (4, V a4)]) (dK D_Mo_hasPageOn 23 rfl) rfl (ltK rfl) rfl ?_
      refine nmE h (fun v4 e_v4 h => ?_)
      refine vg_iinc (pc := 42) (j := 4) (a := a4) (z := 1) (ls2 := [(4, V v4), (3, V (i_or a3 0)), (0, .ref c0), (1, V a1), (2, V a2)]) (dK D_Mo_hasPageOn 24 rfl) rfl e_v4 (ltK rfl) rfl ?_
      refine g_goto (pc := 45) (tgt := 5) (dK D_Mo_hasPageOn 25 rfl) rfl ?_
      refine gL_weak (ls' := [(0, .ref c0), (1, V a1), (2, V a2), (3, V (i_or a3 0)), (4, V v4)]) (sbc 2 rfl (sbc 3 rfl (sbc 4 rfl (sbc 1 rfl (sbc 0 rfl sbn))))) ?_
      replace h := ih _ h
      exact h (toInt_in _) (Vn_in e_v4)
def fn_Mo_hasPageOn (c0 : Nat) (a1 : Int) (a2 : Int) (S : St) : Option (Bool) := bnO (lo_Mo_hasPageOn_5 c0 a1 a2 S FU (0, 1)) fun p10 => if p10 = 0 ∨ p10 = 1 then (some (decide (p10 = 1))) else none
theorem tf_Mo_hasPageOn {E : EV} {X : XT} {c0 : Nat} (hc0 : HC X 11 c0) {a1 : Int} (ha1 : inR a1) {a2 : Int} (ha2 : inR a2) {S : St} {q : Bool} (h : fn_Mo_hasPageOn c0 a1 a2 S = some q) : Ev E M_Mo_hasPageOn [.ref c0, V a1, V a2] (WX X S) 0 0 (KB X q S) := by
  refine Ev.of pn_Mo rfl (leK rfl) ?_
  show Go E M_Mo_hasPageOn 0 0 0 [(0, .ref c0), (1, V a1), (2, V a2)] [] (WX X S) 0 0 (KB X q S)
  unfold fn_Mo_hasPageOn at h
  refine vg_iconst (pc := 0) (dK D_Mo_hasPageOn 0 rfl) ?_
  refine g_istoren (pc := 1) (i0 := 3) (ls2 := [(3, V 0), (0, .ref c0), (1, V a1), (2, V a2)]) (dK D_Mo_hasPageOn 1 rfl) rfl (ltK rfl) rfl ?_
  refine vg_iconst (pc := 2) (dK D_Mo_hasPageOn 2 rfl) ?_
  refine g_istore (pc := 3) (ls2 := [(4, V 1), (3, V 0), (0, .ref c0), (1, V a1), (2, V a2)]) (dK D_Mo_hasPageOn 3 rfl) (ltK rfl) rfl ?_
  refine bnE h (fun p10 e_p10 h => ?_)
  refine gL_weak (ls' := [(0, .ref c0), (1, V a1), (2, V a2), (3, V 0), (4, V 1)]) (sbc 2 rfl (sbc 3 rfl (sbc 4 rfl (sbc 1 rfl (sbc 0 rfl sbn))))) ?_
  refine tl_Mo_hasPageOn_5 hc0 ha1 ha2 (fun hx3_p10 => ?_) FU (0, 1) e_p10 (inRk rfl) (inRk rfl)
  refine g_iloadn (pc := 48) (i0 := 3) (j := 0) (dK D_Mo_hasPageOn 26 rfl) rfl rfl ?_
  refine gdE h (fun hb11 h => ?_)
  refine gsk (st' := [V (bi (decide (p10 = 1)))]) (congrArg (fun z => [z]) (V_bi hb11).symm) ?_
  exact vg_iretB (pc := 49) (b := (decide (p10 = 1))) (dK D_Mo_hasPageOn 27 rfl) rfl (leK rfl) (leK rfl) (fun _ => rfl) (by obtain rfl := Option.some.inj h; exact ⟨rfl, rfl⟩)
def lb_Mo_lateOnForm_4 (c0 : Nat) (a1 : Int) (S : St) (go : Int × Int → Option (Int)) (a2 : Int) (a3 : Int) : Option (Int) := if (g S (tgt c0 0) 1) ≤ a3 then (some a2) else (bnO (fn_Mo_isAdOnForm c0 a3 a1 S) fun p1 => if p1 = true then (bnO (fn_Mo_isAdLate c0 a3 S) fun p5 => if p5 = true then (nm (wr (a2 + 1)) fun v9 => nm (wr (a3 + 1)) fun v10 => go (v9, v10)) else (nm (wr (a2 + 0)) fun v7 => nm (wr (a3 + 1)) fun v8 => go (v7, v8))) else (nm (wr (a2 + 0)) fun v3 => nm (wr (a3 + 1)) fun v4 => go (v3, v4)))
def lo_Mo_lateOnForm_4 (c0 : Nat) (a1 : Int) (S : St) : Nat → Int × Int → Option (Int) := lp fun go p => lb_Mo_lateOnForm_4 c0 a1 S go p.1 p.2
theorem tl_Mo_lateOnForm_4 {E : EV} {X : XT} {c0 : Nat} (hc0 : HC X 11 c0) {a1 : Int} (ha1 : inR a1) {S : St} {K : RK → PS → Prop} {q : Int} (hx : inR q → Go E M_Mo_lateOnForm 0 0 45 [(0, .ref c0), (1, V a1), (2, V q)] [] (WX X S) 0 0 K) : ∀ n a, lo_Mo_lateOnForm_4 c0 a1 S n a = some q → inR a.1 → inR a.2 → Go E M_Mo_lateOnForm 0 0 4 [(0, .ref c0), (1, V a1), (2, V a.1), (3, V a.2)] [] (WX X S) 0 0 K := by
  refine lp_ind (P := fun a : Int × Int => inR a.1 → inR a.2 → Go E M_Mo_lateOnForm 0 0 4 [(0, .ref c0), (1, V a1), (2, V a.1), (3, V a.2)] [] (WX X S) 0 0 K) (fun go ih a h => ?_)
  obtain ⟨a2, a3⟩ := a
  intro ha2 ha3
  show Go E M_Mo_lateOnForm 0 0 4 [(0, .ref c0), (1, V a1), (2, V a2), (3, V a3)] [] (WX X S) 0 0 K
  replace h : lb_Mo_lateOnForm_4 c0 a1 S go a2 a3 = some q := h
  unfold lb_Mo_lateOnForm_4 at h
  refine g_iloadn (pc := 4) (i0 := 3) (j := 3) (dK D_Mo_lateOnForm_0 4 rfl) rfl rfl ?_
  refine g_aloadn (pc := 5) (i0 := 0) (j := 0) (dK D_Mo_lateOnForm_0 5 rfl) rfl rfl ?_
  refine vg_getA (pc := 6) (ci := 11) (f := 0) (dK D_Mo_lateOnForm_0 6 rfl) q_1442 hc0 (ltK rfl) (ltK rfl) rfl ?_
  refine vg_iconst (pc := 9) (dK D_Mo_lateOnForm_0 7 rfl) ?_
  refine vg_iaload (pc := 10) (j := 1) (dK D_Mo_lateOnForm_0 8 rfl) (hw_11_0 hc0) rfl ⟨by decide, by decide⟩ rfl ?_
  refine vg_icmp_ge (pc := 11) (t := 45) (dK D_Mo_lateOnForm_0 9 rfl) rfl ha3 (g_in _ _ _) (fun hc11 => ?_) (fun hc11 => ?_)
  · replace h := ifP h hc11
    obtain rfl := Option.some.inj h
    refine gL_weak (ls' := [(0, .ref c0), (1, V a1), (2, V a2)]) (sbc 0 rfl (sbc 1 rfl (sbc 2 rfl sbn))) ?_
    exact hx ha2
  · replace h := ifN h hc11
    refine g_iloadn (pc := 14) (i0 := 2) (j := 2) (dK D_Mo_lateOnForm_0 10 rfl) rfl rfl ?_
    refine g_aloadn (pc := 15) (i0 := 0) (j := 0) (dK D_Mo_lateOnForm_0 11 rfl) rfl rfl ?_
    refine g_iloadn (pc := 16) (i0 := 3) (j := 3) (dK D_Mo_lateOnForm_0 12 rfl) rfl rfl ?_
    refine g_iloadn (pc := 17) (i0 := 1) (j := 1) (dK D_Mo_lateOnForm_0 13 rfl) rfl rfl ?_
    refine bnE h (fun p1 e_p1 h => ?_)
    refine vg_cV (pc := 18) (As := [V a3, V a1]) (rest := [V a2]) (mc' := 0) (ms' := 0) (dK D_Mo_lateOnForm_0 14 rfl) K_Mo_193 (fitK rfl) (ltK rfl) hc0 rfl (leK rfl) (leK rfl) (leK rfl) (tf_Mo_isAdOnForm hc0 ha3 ha1 e_p1) (kcB ?_)
    refine vg_ifB_eq (pc := 21) (b := p1) (t := 36) (dK D_Mo_lateOnForm_0 15 rfl) rfl (fun hc2 => ?_) (fun hc2 => ?_)
    · replace h := ifP h hc2
      refine g_aloadn (pc := 24) (i0 := 0) (j := 0) (dK D_Mo_lateOnForm_0 16 rfl) rfl rfl ?_
      refine g_iloadn (pc := 25) (i0 := 3) (j := 3) (dK D_Mo_lateOnForm_0 17 rfl) rfl rfl ?_
      refine bnE h (fun p5 e_p5 h => ?_)
      refine vg_cV (pc := 26) (As := [V a3]) (rest := [V a2]) (mc' := 0) (ms' := 0) (dK D_Mo_lateOnForm_0 18 rfl) K_Mo_173 (fitK rfl) (ltK rfl) hc0 rfl (leK rfl) (leK rfl) (leK rfl) (tf_Mo_isAdLate hc0 ha3 e_p5) (kcB ?_)
      refine vg_ifB_eq (pc := 29) (b := p5) (t := 36) (dK D_Mo_lateOnForm_0 19 rfl) rfl (fun hc6 => ?_) (fun hc6 => ?_)
      · replace h := ifP h hc6
        refine vg_iconst (pc := 32) (dK D_Mo_lateOnForm_0 20 rfl) ?_
        refine g_goto (pc := 33) (tgt := 37) (dK D_Mo_lateOnForm_0 21 rfl) rfl ?_
        refine vg_iadd (pc := 37) (dK D_Mo_lateOnForm_0 23 rfl) ?_
        refine nmE h (fun v9 e_v9 h => ?_)
        refine gtop e_v9 ?_
        refine g_istoren (pc := 38) (i0 := 2) (ls2 := [(2, V v9), (0, .ref c0), (1, V a1), (3, V a3)]) (dK D_Mo_lateOnForm_0 24 rfl) rfl (ltK rfl) rfl ?_
        refine nmE h (fun v10 e_v10 h => ?_)
        refine vg_iinc (pc := 39) (j := 3) (a := a3) (z := 1) (ls2 := [(3, V v10), (2, V v9), (0, .ref c0), (1, V a1)]) (dK D_Mo_lateOnForm_0 25 rfl) rfl e_v10 (ltK rfl) rfl ?_
        refine g_goto (pc := 42) (tgt := 4) (dK D_Mo_lateOnForm_0 26 rfl) rfl ?_
        refine gL_weak (ls' := [(0, .ref c0), (1, V a1), (2, V v9), (3, V v10)]) (sbc 2 rfl (sbc 3 rfl (sbc 1 rfl (sbc 0 rfl sbn)))) ?_
        replace h := ih _ h
        exact h (Vn_in e_v9) (Vn_in e_v10)
      · replace h := ifN h hc6
        refine vg_iconst (pc := 36) (dK D_Mo_lateOnForm_0 22 rfl) ?_
        refine vg_iadd (pc := 37) (dK D_Mo_lateOnForm_0 23 rfl) ?_
        refine nmE h (fun v7 e_v7 h => ?_)
        refine gtop e_v7 ?_
        refine g_istoren (pc := 38) (i0 := 2) (ls2 := [(2, V v7), (0, .ref c0), (1, V a1), (3, V a3)]) (dK D_Mo_lateOnForm_0 24 rfl) rfl (ltK rfl) rfl ?_
        refine nmE h (fun v8 e_v8 h => ?_)
        refine vg_iinc (pc := 39) (j := 3) (a := a3) (z := 1) (ls2 := [(3, V v8), (2, V v7), (0, .ref c0), (1, V a1)]) (dK D_Mo_lateOnForm_0 25 rfl) rfl e_v8 (ltK rfl) rfl ?_
        refine g_goto (pc := 42) (tgt := 4) (dK D_Mo_lateOnForm_0 26 rfl) rfl ?_
        refine gL_weak (ls' := [(0, .ref c0), (1, V a1), (2, V v7), (3, V v8)]) (sbc 2 rfl (sbc 3 rfl (sbc 1 rfl (sbc 0 rfl sbn)))) ?_
        replace h := ih _ h
        exact h (Vn_in e_v7) (Vn_in e_v8)
    · replace h := ifN h hc2
      refine vg_iconst (pc := 36) (dK D_Mo_lateOnForm_0 22 rfl) ?_
      refine vg_iadd (pc := 37) (dK D_Mo_lateOnForm_0 23 rfl) ?_
      refine nmE h (fun v3 e_v3 h => ?_)
      refine gtop e_v3 ?_
      refine g_istoren (pc := 38) (i0 := 2) (ls2 := [(2, V v3), (0, .ref c0), (1, V a1), (3, V a3)]) (dK D_Mo_lateOnForm_0 24 rfl) rfl (ltK rfl) rfl ?_
      refine nmE h (fun v4 e_v4 h => ?_)
      refine vg_iinc (pc := 39) (j := 3) (a := a3) (z := 1) (ls2 := [(3, V v4), (2, V v3), (0, .ref c0), (1, V a1)]) (dK D_Mo_lateOnForm_0 25 rfl) rfl e_v4 (ltK rfl) rfl ?_
      refine g_goto (pc := 42) (tgt := 4) (dK D_Mo_lateOnForm_0 26 rfl) rfl ?_
      refine gL_weak (ls' := [(0, .ref c0), (1, V a1), (2, V v3), (3, V v4)]) (sbc 2 rfl (sbc 3 rfl (sbc 1 rfl (sbc 0 rfl sbn)))) ?_
      replace h := ih _ h
      exact h (Vn_in e_v3) (Vn_in e_v4)
def lb_Mo_lateOnForm_47 (c0 : Nat) (a1 : Int) (S : St) (go : Int × Int → Option (Int)) (a2 : Int) (a3 : Int) : Option (Int) := if (g S (tgt c0 0) 2) ≤ a3 then (some a2) else (bnO (fn_Mo_isStoryLate c0 a3 S) fun p13 => if p13 = true then (bnO (fn_Mo_hasPageOn c0 a3 a1 S) fun p17 => if p17 = true then (nm (wr (a2 + 1)) fun v21 => nm (wr (a3 + 1)) fun v22 => go (v21, v22)) else (nm (wr (a2 + 0)) fun v19 => nm (wr (a3 + 1)) fun v20 => go (v19, v20))) else (nm (wr (a2 + 0)) fun v15 => nm (wr (a3 + 1)) fun v16 => go (v15, v16)))
def lo_Mo_lateOnForm_47 (c0 : Nat) (a1 : Int) (S : St) : Nat → Int × Int → Option (Int) := lp fun go p => lb_Mo_lateOnForm_47 c0 a1 S go p.1 p.2
theorem tl_Mo_lateOnForm_47 {E : EV} {X : XT} {c0 : Nat} (hc0 : HC X 11 c0) {a1 : Int} (ha1 : inR a1) {S : St} {K : RK → PS → Prop} {q : Int} (hx : inR q → Go E M_Mo_lateOnForm 0 0 88 [(2, V q)] [] (WX X S) 0 0 K) : ∀ n a, lo_Mo_lateOnForm_47 c0 a1 S n a = some q → inR a.1 → inR a.2 → Go E M_Mo_lateOnForm 0 0 47 [(0, .ref c0), (1, V a1), (2, V a.1), (3, V a.2)] [] (WX X S) 0 0 K := by
  refine lp_ind (P := fun a : Int × Int => inR a.1 → inR a.2 → Go E M_Mo_lateOnForm 0 0 47 [(0, .ref c0), (1, V a1), (2, V a.1), (3, V a.2)] [] (WX X S) 0 0 K) (fun go ih a h => ?_)
  obtain ⟨a2, a3⟩ := a
  intro ha2 ha3
  show Go E M_Mo_lateOnForm 0 0 47 [(0, .ref c0), (1, V a1), (2, V a2), (3, V a3)] [] (WX X S) 0 0 K
  replace h : lb_Mo_lateOnForm_47 c0 a1 S go a2 a3 = some q := h
  unfold lb_Mo_lateOnForm_47 at h
  refine g_iloadn (pc := 47) (i0 := 3) (j := 3) (dK D_Mo_lateOnForm_0 29 rfl) rfl rfl ?_
  refine g_aloadn (pc := 48) (i0 := 0) (j := 0) (dK D_Mo_lateOnForm_0 30 rfl) rfl rfl ?_
  refine vg_getA (pc := 49) (ci := 11) (f := 0) (dK D_Mo_lateOnForm_0 31 rfl) q_1442 hc0 (ltK rfl) (ltK rfl) rfl ?_
  refine vg_iconst (pc := 52) (dK D_Mo_lateOnForm_0 32 rfl) ?_
  refine vg_iaload (pc := 53) (j := 2) (dK D_Mo_lateOnForm_0 33 rfl) (hw_11_0 hc0) rfl ⟨by decide, by decide⟩ rfl ?_
  refine vg_icmp_ge (pc := 54) (t := 88) (dK D_Mo_lateOnForm_0 34 rfl) rfl ha3 (g_in _ _ _) (fun hc23 => ?_) (fun hc23 => ?_)
  · replace h := ifP h hc23
    obtain rfl := Option.some.inj h
    refine gL_weak (ls' := [(2, V a2)]) (sbc 2 rfl sbn) ?_
    exact hx ha2
  · replace h := ifN h hc23
    refine g_iloadn (pc := 57) (i0 := 2) (j := 2) (dK D_Mo_lateOnForm_0 35 rfl) rfl rfl ?_
    refine g_aloadn (pc := 58) (i0 := 0) (j := 0) (dK D_Mo_lateOnForm_0 36 rfl) rfl rfl ?_
    refine g_iloadn (pc := 59) (i0 := 3) (j := 3) (dK D_Mo_lateOnForm_0 37 rfl) rfl rfl ?_
    refine bnE h (fun p13 e_p13 h => ?_)
    refine vg_cV (pc := 60) (As := [V a3]) (rest := [V a2]) (mc' := 0) (ms' := 0) (dK D_Mo_lateOnForm_0 38 rfl) K_Mo_178 (fitK rfl) (ltK rfl) hc0 rfl (leK rfl) (leK rfl) (leK rfl) (tf_Mo_isStoryLate hc0 ha3 e_p13) (kcB ?_)
    refine vg_ifB_eq (pc := 63) (b := p13) (t := 79) (dK D_Mo_lateOnForm_0 39 rfl) rfl (fun hc14 => ?_) (fun hc14 => ?_)
    · replace h := ifP h hc14
      refine g_aloadn (pc := 66) (i0 := 0) (j := 0) (dK D_Mo_lateOnForm_0 40 rfl) rfl rfl ?_
      refine g_iloadn (pc := 67) (i0 := 3) (j := 3) (dK D_Mo_lateOnForm_0 41 rfl) rfl rfl ?_
      refine g_iloadn (pc := 68) (i0 := 1) (j := 1) (dK D_Mo_lateOnForm_0 42 rfl) rfl rfl ?_
      refine bnE h (fun p17 e_p17 h => ?_)
      refine vg_cV (pc := 69) (As := [V a3, V a1]) (rest := [V a2]) (mc' := 0) (ms' := 0) (dK D_Mo_lateOnForm_0 43 rfl) K_Mo_196 (fitK rfl) (ltK rfl) hc0 rfl (leK rfl) (leK rfl) (leK rfl) (tf_Mo_hasPageOn hc0 ha3 ha1 e_p17) (kcB ?_)
      refine vg_ifB_eq (pc := 72) (b := p17) (t := 79) (dK D_Mo_lateOnForm_0 44 rfl) rfl (fun hc18 => ?_) (fun hc18 => ?_)
      · replace h := ifP h hc18
        refine vg_iconst (pc := 75) (dK D_Mo_lateOnForm_0 45 rfl) ?_
        refine g_goto (pc := 76) (tgt := 80) (dK D_Mo_lateOnForm_0 46 rfl) rfl ?_
        refine vg_iadd (pc := 80) (dK D_Mo_lateOnForm_0 48 rfl) ?_
        refine nmE h (fun v21 e_v21 h => ?_)
        refine gtop e_v21 ?_
        refine g_istoren (pc := 81) (i0 := 2) (ls2 := [(2, V v21), (0, .ref c0), (1, V a1), (3, V a3)]) (dK D_Mo_lateOnForm_0 49 rfl) rfl (ltK rfl) rfl ?_
        refine nmE h (fun v22 e_v22 h => ?_)
        refine vg_iinc (pc := 82) (j := 3) (a := a3) (z := 1) (ls2 := [(3, V v22), (2, V v21), (0, .ref c0), (1, V a1)]) (dK D_Mo_lateOnForm_1 0 rfl) rfl e_v22 (ltK rfl) rfl ?_
        refine g_goto (pc := 85) (tgt := 47) (dK D_Mo_lateOnForm_1 1 rfl) rfl ?_
        refine gL_weak (ls' := [(0, .ref c0), (1, V a1), (2, V v21), (3, V v22)]) (sbc 2 rfl (sbc 3 rfl (sbc 1 rfl (sbc 0 rfl sbn)))) ?_
        replace h := ih _ h
        exact h (Vn_in e_v21) (Vn_in e_v22)
      · replace h := ifN h hc18
        refine vg_iconst (pc := 79) (dK D_Mo_lateOnForm_0 47 rfl) ?_
        refine vg_iadd (pc := 80) (dK D_Mo_lateOnForm_0 48 rfl) ?_
        refine nmE h (fun v19 e_v19 h => ?_)
        refine gtop e_v19 ?_
        refine g_istoren (pc := 81) (i0 := 2) (ls2 := [(2, V v19), (0, .ref c0), (1, V a1), (3, V a3)]) (dK D_Mo_lateOnForm_0 49 rfl) rfl (ltK rfl) rfl ?_
        refine nmE h (fun v20 e_v20 h => ?_)
        refine vg_iinc (pc := 82) (j := 3) (a := a3) (z := 1) (ls2 := [(3, V v20), (2, V v19), (0, .ref c0), (1, V a1)]) (dK D_Mo_lateOnForm_1 0 rfl) rfl e_v20 (ltK rfl) rfl ?_
        refine g_goto (pc := 85) (tgt := 47) (dK D_Mo_lateOnForm_1 1 rfl) rfl ?_
        refine gL_weak (ls' := [(0, .ref c0), (1, V a1), (2, V v19), (3, V v20)]) (sbc 2 rfl (sbc 3 rfl (sbc 1 rfl (sbc 0 rfl sbn)))) ?_
        replace h := ih _ h
        exact h (Vn_in e_v19) (Vn_in e_v20)
    · replace h := ifN h hc14
      refine vg_iconst (pc := 79) (dK D_Mo_lateOnForm_0 47 rfl) ?_
      refine vg_iadd (pc := 80) (dK D_Mo_lateOnForm_0 48 rfl) ?_
      refine nmE h (fun v15 e_v15 h => ?_)
      refine gtop e_v15 ?_
      refine g_istoren (pc := 81) (i0 := 2) (ls2 := [(2, V v15), (0, .ref c0), (1, V a1), (3, V a3)]) (dK D_Mo_lateOnForm_0 49 rfl) rfl (ltK rfl) rfl ?_
      refine nmE h (fun v16 e_v16 h => ?_)
      refine vg_iinc (pc := 82) (j := 3) (a := a3) (z := 1) (ls2 := [(3, V v16), (2, V v15), (0, .ref c0), (1, V a1)]) (dK D_Mo_lateOnForm_1 0 rfl) rfl e_v16 (ltK rfl) rfl ?_
      refine g_goto (pc := 85) (tgt := 47) (dK D_Mo_lateOnForm_1 1 rfl) rfl ?_
      refine gL_weak (ls' := [(0, .ref c0), (1, V a1), (2, V v15), (3, V v16)]) (sbc 2 rfl (sbc 3 rfl (sbc 1 rfl (sbc 0 rfl sbn)))) ?_
      replace h := ih _ h
      exact h (Vn_in e_v15) (Vn_in e_v16)
def fn_Mo_lateOnForm (c0 : Nat) (a1 : Int) (S : St) : Option (Int) := bnO (lo_Mo_lateOnForm_4 c0 a1 S FU (0, 0)) fun p12 => bnO (lo_Mo_lateOnForm_47 c0 a1 S FU (p12, 0)) fun p24 => some p24
theorem tf_Mo_lateOnForm {E : EV} {X : XT} {c0 : Nat} (hc0 : HC X 11 c0) {a1 : Int} (ha1 : inR a1) {S : St} {q : Int} (h : fn_Mo_lateOnForm c0 a1 S = some q) : Ev E M_Mo_lateOnForm [.ref c0, V a1] (WX X S) 0 0 (KI X q S) := by
  refine Ev.of pn_Mo rfl (leK rfl) ?_
  show Go E M_Mo_lateOnForm 0 0 0 [(0, .ref c0), (1, V a1)] [] (WX X S) 0 0 (KI X q S)
  unfold fn_Mo_lateOnForm at h
  refine vg_iconst (pc := 0) (dK D_Mo_lateOnForm_0 0 rfl) ?_
  refine g_istoren (pc := 1) (i0 := 2) (ls2 := [(2, V 0), (0, .ref c0), (1, V a1)]) (dK D_Mo_lateOnForm_0 1 rfl) rfl (ltK rfl) rfl ?_
  refine vg_iconst (pc := 2) (dK D_Mo_lateOnForm_0 2 rfl) ?_
  refine g_istoren (pc := 3) (i0 := 3) (ls2 := [(3, V 0), (2, V 0), (0, .ref c0), (1, V a1)]) (dK D_Mo_lateOnForm_0 3 rfl) rfl (ltK rfl) rfl ?_
  refine bnE h (fun p12 e_p12 h => ?_)
  refine gL_weak (ls' := [(0, .ref c0), (1, V a1), (2, V 0), (3, V 0)]) (sbc 2 rfl (sbc 3 rfl (sbc 1 rfl (sbc 0 rfl sbn)))) ?_
  refine tl_Mo_lateOnForm_4 hc0 ha1 (fun hx2_p12 => ?_) FU (0, 0) e_p12 (inRk rfl) (inRk rfl)
  refine vg_iconst (pc := 45) (dK D_Mo_lateOnForm_0 27 rfl) ?_
  refine g_istoren (pc := 46) (i0 := 3) (ls2 := [(3, V 0), (0, .ref c0), (1, V a1), (2, V p12)]) (dK D_Mo_lateOnForm_0 28 rfl) rfl (ltK rfl) rfl ?_
  refine bnE h (fun p24 e_p24 h => ?_)
  refine gL_weak (ls' := [(0, .ref c0), (1, V a1), (2, V p12), (3, V 0)]) (sbc 1 rfl (sbc 2 rfl (sbc 3 rfl (sbc 0 rfl sbn)))) ?_
  refine tl_Mo_lateOnForm_47 hc0 ha1 (fun hx2_p24 => ?_) FU (p12, 0) e_p24 hx2_p12 (inRk rfl)
  refine g_iloadn (pc := 88) (i0 := 2) (j := 0) (dK D_Mo_lateOnForm_1 2 rfl) rfl rfl ?_
  exact vg_iretI (pc := 89) (r := p24) (dK D_Mo_lateOnForm_1 3 rfl) rfl (leK rfl) (leK rfl) (fun _ => rfl) (by obtain rfl := Option.some.inj h; exact ⟨rfl, hx2_p24, rfl⟩)
def lb_Mo_hasColored_4 (c0 : Nat) (a1 : Int) (S : St) (go : Int × Int → Option (Int)) (a2 : Int) (a3 : Int) : Option (Int) := if (g S (tgt c0 0) 1) ≤ a3 then (some a2) else (bnO (fn_Mo_isAdOnForm c0 a3 a1 S) fun p1 => if p1 = true then (bnO (fn_Mo_ofAd c0 a3 2 S) fun p4 => if p4 = 1 then (nm (wr (a3 + 1)) fun v6 => go ((i_or a2 1), v6)) else (nm (wr (a3 + 1)) fun v5 => go ((i_or a2 0), v5))) else (nm (wr (a3 + 1)) fun v3 => go ((i_or a2 0), v3)))
def lo_Mo_hasColored_4 (c0 : Nat) (a1 : Int) (S : St) : Nat → Int × Int → Option (Int) := lp fun go p => lb_Mo_hasColored_4 c0 a1 S go p.1 p.2
theorem tl_Mo_hasColored_4 {E : EV} {X : XT} {c0 : Nat} (hc0 : HC X 11 c0) {a1 : Int} (ha1 : inR a1) {S : St} {K : RK → PS → Prop} {q : Int} (hx : inR q → Go E M_Mo_hasColored 0 0 47 [(0, .ref c0), (1, V a1), (2, V q)] [] (WX X S) 0 0 K) : ∀ n a, lo_Mo_hasColored_4 c0 a1 S n a = some q → inR a.1 → inR a.2 → Go E M_Mo_hasColored 0 0 4 [(0, .ref c0), (1, V a1), (2, V a.1), (3, V a.2)] [] (WX X S) 0 0 K := by
  refine lp_ind (P := fun a : Int × Int => inR a.1 → inR a.2 → Go E M_Mo_hasColored 0 0 4 [(0, .ref c0), (1, V a1), (2, V a.1), (3, V a.2)] [] (WX X S) 0 0 K) (fun go ih a h => ?_)
  obtain ⟨a2, a3⟩ := a
  intro ha2 ha3
  show Go E M_Mo_hasColored 0 0 4 [(0, .ref c0), (1, V a1), (2, V a2), (3, V a3)] [] (WX X S) 0 0 K
  replace h : lb_Mo_hasColored_4 c0 a1 S go a2 a3 = some q := h
  unfold lb_Mo_hasColored_4 at h
  refine g_iloadn (pc := 4) (i0 := 3) (j := 3) (dK D_Mo_hasColored_0 4 rfl) rfl rfl ?_
  refine g_aloadn (pc := 5) (i0 := 0) (j := 0) (dK D_Mo_hasColored_0 5 rfl) rfl rfl ?_
  refine vg_getA (pc := 6) (ci := 11) (f := 0) (dK D_Mo_hasColored_0 6 rfl) q_1442 hc0 (ltK rfl) (ltK rfl) rfl ?_
  refine vg_iconst (pc := 9) (dK D_Mo_hasColored_0 7 rfl) ?_
  refine vg_iaload (pc := 10) (j := 1) (dK D_Mo_hasColored_0 8 rfl) (hw_11_0 hc0) rfl ⟨by decide, by decide⟩ rfl ?_
  refine vg_icmp_ge (pc := 11) (t := 47) (dK D_Mo_hasColored_0 9 rfl) rfl ha3 (g_in _ _ _) (fun hc8 => ?_) (fun hc8 => ?_)
  · replace h := ifP h hc8
    obtain rfl := Option.some.inj h
    refine gL_weak (ls' := [(0, .ref c0), (1, V a1), (2, V a2)]) (sbc 0 rfl (sbc 1 rfl (sbc 2 rfl sbn))) ?_
    exact hx ha2
  · replace h := ifN h hc8
    refine g_iloadn (pc := 14) (i0 := 2) (j := 2) (dK D_Mo_hasColored_0 10 rfl) rfl rfl ?_
    refine g_aloadn (pc := 15) (i0 := 0) (j := 0) (dK D_Mo_hasColored_0 11 rfl) rfl rfl ?_
    refine g_iloadn (pc := 16) (i0 := 3) (j := 3) (dK D_Mo_hasColored_0 12 rfl) rfl rfl ?_
    refine g_iloadn (pc := 17) (i0 := 1) (j := 1) (dK D_Mo_hasColored_0 13 rfl) rfl rfl ?_
    refine bnE h (fun p1 e_p1 h => ?_)
    refine vg_cV (pc := 18) (As := [V a3, V a1]) (rest := [V a2]) (mc' := 0) (ms' := 0) (dK D_Mo_hasColored_0 14 rfl) K_Mo_193 (fitK rfl) (ltK rfl) hc0 rfl (leK rfl) (leK rfl) (leK rfl) (tf_Mo_isAdOnForm hc0 ha3 ha1 e_p1) (kcB ?_)
    refine vg_ifB_eq (pc := 21) (b := p1) (t := 38) (dK D_Mo_hasColored_0 15 rfl) rfl (fun hc2 => ?_) (fun hc2 => ?_)
    · replace h := ifP h hc2
      refine g_aloadn (pc := 24) (i0 := 0) (j := 0) (dK D_Mo_hasColored_0 16 rfl) rfl rfl ?_
      refine g_iloadn (pc := 25) (i0 := 3) (j := 3) (dK D_Mo_hasColored_0 17 rfl) rfl rfl ?_
      refine vg_iconst (pc := 26) (dK D_Mo_hasColored_0 18 rfl) ?_
      refine bnE h (fun p4 e_p4 h => ?_)
      refine vg_cV (pc := 27) (As := [V a3, V 2]) (rest := [V a2]) (mc' := 0) (ms' := 0) (dK D_Mo_hasColored_0 19 rfl) K_Mo_82 (fitK rfl) (ltK rfl) hc0 rfl (leK rfl) (leK rfl) (leK rfl) (tf_Mo_ofAd hc0 ha3 (inRk rfl) e_p4) (kcI (fun h_p4 => ?_))
      refine vg_iconst (pc := 30) (dK D_Mo_hasColored_0 20 rfl) ?_
      refine vg_icmp_ne (pc := 31) (t := 38) (dK D_Mo_hasColored_0 21 rfl) rfl h_p4 (inRk rfl) (fun hc7 => ?_) (fun hc7 => ?_)
      · replace h := ifN h hc7
        refine vg_iconst (pc := 38) (dK D_Mo_hasColored_0 24 rfl) ?_
        refine vg_ior (pc := 39) (dK D_Mo_hasColored_0 25 rfl) ?_
        refine g_istoren (pc := 40) (i0 := 2) (ls2 := [(2, V (i_or a2 0)), (0, .ref c0), (1, V a1), (3, V a3)]) (dK D_Mo_hasColored_0 26 rfl) rfl (ltK rfl) rfl ?_
        refine nmE h (fun v5 e_v5 h => ?_)
        refine vg_iinc (pc := 41) (j := 3) (a := a3) (z := 1) (ls2 := [(3, V v5), (2, V (i_or a2 0)), (0, .ref c0), (1, V a1)]) (dK D_Mo_hasColored_0 27 rfl) rfl e_v5 (ltK rfl) rfl ?_
        refine g_goto (pc := 44) (tgt := 4) (dK D_Mo_hasColored_0 28 rfl) rfl ?_
        refine gL_weak (ls' := [(0, .ref c0), (1, V a1), (2, V (i_or a2 0)), (3, V v5)]) (sbc 2 rfl (sbc 3 rfl (sbc 1 rfl (sbc 0 rfl sbn)))) ?_
        replace h := ih _ h
        exact h (toInt_in _) (Vn_in e_v5)
      · replace h := ifP h hc7
        refine vg_iconst (pc := 34) (dK D_Mo_hasColored_0 22 rfl) ?_
        refine g_goto (pc := 35) (tgt := 39) (dK D_Mo_hasColored_0 23 rfl) rfl ?_
        refine vg_ior (pc := 39) (dK D_Mo_hasColored_0 25 rfl) ?_
        refine g_istoren (pc := 40) (i0 := 2) (ls2 := [(2, V (i_or a2 1)), (0, .ref c0), (1, V a1), (3, V a3)]) (dK D_Mo_hasColored_0 26 rfl) rfl (ltK rfl) rfl ?_
        refine nmE h (fun v6 e_v6 h => ?_)
        refine vg_iinc (pc := 41) (j := 3) (a := a3) (z := 1) (ls2 := [(3, V v6), (2, V (i_or a2 1)), (0, .ref c0), (1, V a1)]) (dK D_Mo_hasColored_0 27 rfl) rfl e_v6 (ltK rfl) rfl ?_
        refine g_goto (pc := 44) (tgt := 4) (dK D_Mo_hasColored_0 28 rfl) rfl ?_
        refine gL_weak (ls' := [(0, .ref c0), (1, V a1), (2, V (i_or a2 1)), (3, V v6)]) (sbc 2 rfl (sbc 3 rfl (sbc 1 rfl (sbc 0 rfl sbn)))) ?_
        replace h := ih _ h
        exact h (toInt_in _) (Vn_in e_v6)
    · replace h := ifN h hc2
      refine vg_iconst (pc := 38) (dK D_Mo_hasColored_0 24 rfl) ?_
      refine vg_ior (pc := 39) (dK D_Mo_hasColored_0 25 rfl) ?_
      refine g_istoren (pc := 40) (i0 := 2) (ls2 := [(2, V (i_or a2 0)), (0, .ref c0), (1, V a1), (3, V a3)]) (dK D_Mo_hasColored_0 26 rfl) rfl (ltK rfl) rfl ?_
      refine nmE h (fun v3 e_v3 h => ?_)
      refine vg_iinc (pc := 41) (j := 3) (a := a3) (z := 1) (ls2 := [(3, V v3), (2, V (i_or a2 0)), (0, .ref c0), (1, V a1)]) (dK D_Mo_hasColored_0 27 rfl) rfl e_v3 (ltK rfl) rfl ?_
      refine g_goto (pc := 44) (tgt := 4) (dK D_Mo_hasColored_0 28 rfl) rfl ?_
      refine gL_weak (ls' := [(0, .ref c0), (1, V a1), (2, V (i_or a2 0)), (3, V v3)]) (sbc 2 rfl (sbc 3 rfl (sbc 1 rfl (sbc 0 rfl sbn)))) ?_
      replace h := ih _ h
      exact h (toInt_in _) (Vn_in e_v3)
def lb_Mo_hasColored_49 (c0 : Nat) (a1 : Int) (S : St) (go : Int × Int → Option (Int)) (a2 : Int) (a3 : Int) : Option (Int) := if (g S (tgt c0 0) 2) ≤ a3 then (some a2) else (bnO (fn_Mo_ofStory c0 a3 1 S) fun p10 => if p10 = 1 then (bnO (fn_Mo_hasPageOn c0 a3 a1 S) fun p12 => if p12 = true then (nm (wr (a3 + 1)) fun v15 => go ((i_or a2 1), v15)) else (nm (wr (a3 + 1)) fun v14 => go ((i_or a2 0), v14))) else (nm (wr (a3 + 1)) fun v11 => go ((i_or a2 0), v11)))
def lo_Mo_hasColored_49 (c0 : Nat) (a1 : Int) (S : St) : Nat → Int × Int → Option (Int) := lp fun go p => lb_Mo_hasColored_49 c0 a1 S go p.1 p.2
theorem tl_Mo_hasColored_49 {E : EV} {X : XT} {c0 : Nat} (hc0 : HC X 11 c0) {a1 : Int} (ha1 : inR a1) {S : St} {K : RK → PS → Prop} {q : Int} (hx : inR q → Go E M_Mo_hasColored 0 0 92 [(2, V q)] [] (WX X S) 0 0 K) : ∀ n a, lo_Mo_hasColored_49 c0 a1 S n a = some q → inR a.1 → inR a.2 → Go E M_Mo_hasColored 0 0 49 [(0, .ref c0), (1, V a1), (2, V a.1), (3, V a.2)] [] (WX X S) 0 0 K := by
  refine lp_ind (P := fun a : Int × Int => inR a.1 → inR a.2 → Go E M_Mo_hasColored 0 0 49 [(0, .ref c0), (1, V a1), (2, V a.1), (3, V a.2)] [] (WX X S) 0 0 K) (fun go ih a h => ?_)
  obtain ⟨a2, a3⟩ := a
  intro ha2 ha3
  show Go E M_Mo_hasColored 0 0 49 [(0, .ref c0), (1, V a1), (2, V a2), (3, V a3)] [] (WX X S) 0 0 K
  replace h : lb_Mo_hasColored_49 c0 a1 S go a2 a3 = some q := h
  unfold lb_Mo_hasColored_49 at h
  refine g_iloadn (pc := 49) (i0 := 3) (j := 3) (dK D_Mo_hasColored_0 31 rfl) rfl rfl ?_
  refine g_aloadn (pc := 50) (i0 := 0) (j := 0) (dK D_Mo_hasColored_0 32 rfl) rfl rfl ?_
  refine vg_getA (pc := 51) (ci := 11) (f := 0) (dK D_Mo_hasColored_0 33 rfl) q_1442 hc0 (ltK rfl) (ltK rfl) rfl ?_
  refine vg_iconst (pc := 54) (dK D_Mo_hasColored_0 34 rfl) ?_
  refine vg_iaload (pc := 55) (j := 2) (dK D_Mo_hasColored_0 35 rfl) (hw_11_0 hc0) rfl ⟨by decide, by decide⟩ rfl ?_
  refine vg_icmp_ge (pc := 56) (t := 92) (dK D_Mo_hasColored_0 36 rfl) rfl ha3 (g_in _ _ _) (fun hc17 => ?_) (fun hc17 => ?_)
  · replace h := ifP h hc17
    obtain rfl := Option.some.inj h
    refine gL_weak (ls' := [(2, V a2)]) (sbc 2 rfl sbn) ?_
    exact hx ha2
  · replace h := ifN h hc17
    refine g_iloadn (pc := 59) (i0 := 2) (j := 2) (dK D_Mo_hasColored_0 37 rfl) rfl rfl ?_
    refine g_aloadn (pc := 60) (i0 := 0) (j := 0) (dK D_Mo_hasColored_0 38 rfl) rfl rfl ?_
    refine g_iloadn (pc := 61) (i0 := 3) (j := 3) (dK D_Mo_hasColored_0 39 rfl) rfl rfl ?_
    refine vg_iconst (pc := 62) (dK D_Mo_hasColored_0 40 rfl) ?_
    refine bnE h (fun p10 e_p10 h => ?_)
    refine vg_cV (pc := 63) (As := [V a3, V 1]) (rest := [V a2]) (mc' := 0) (ms' := 0) (dK D_Mo_hasColored_0 41 rfl) K_Mo_85 (fitK rfl) (ltK rfl) hc0 rfl (leK rfl) (leK rfl) (leK rfl) (tf_Mo_ofStory hc0 ha3 (inRk rfl) e_p10) (kcI (fun h_p10 => ?_))
    refine vg_iconst (pc := 66) (dK D_Mo_hasColored_0 42 rfl) ?_
    refine vg_icmp_ne (pc := 67) (t := 83) (dK D_Mo_hasColored_0 43 rfl) rfl h_p10 (inRk rfl) (fun hc16 => ?_) (fun hc16 => ?_)
    · replace h := ifN h hc16
      refine vg_iconst (pc := 83) (dK D_Mo_hasColored_1 1 rfl) ?_
      refine vg_ior (pc := 84) (dK D_Mo_hasColored_1 2 rfl) ?_
      refine g_istoren (pc := 85) (i0 := 2) (ls2 := [(2, V (i_or a2 0)), (0, .ref c0), (1, V a1), (3, V a3)]) (dK D_Mo_hasColored_1 3 rfl) rfl (ltK rfl) rfl ?_
      refine nmE h (fun v11 e_v11 h => ?_)
      refine vg_iinc (pc := 86) (j := 3) (a := a3) (z := 1) (ls2 := [(3, V v11), (2, V (i_or a2 0)), (0, .ref c0), (1, V a1)]) (dK D_Mo_hasColored_1 4 rfl) rfl e_v11 (ltK rfl) rfl ?_
      refine g_goto (pc := 89) (tgt := 49) (dK D_Mo_hasColored_1 5 rfl) rfl ?_
      refine gL_weak (ls' := [(0, .ref c0), (1, V a1), (2, V (i_or a2 0)), (3, V v11)]) (sbc 2 rfl (sbc 3 rfl (sbc 1 rfl (sbc 0 rfl sbn)))) ?_
      replace h := ih _ h
      exact h (toInt_in _) (Vn_in e_v11)
    · replace h := ifP h hc16
      refine g_aloadn (pc := 70) (i0 := 0) (j := 0) (dK D_Mo_hasColored_0 44 rfl) rfl rfl ?_
      refine g_iloadn (pc := 71) (i0 := 3) (j := 3) (dK D_Mo_hasColored_0 45 rfl) rfl rfl ?_
      refine g_iloadn (pc := 72) (i0 := 1) (j := 1) (dK D_Mo_hasColored_0 46 rfl) rfl rfl ?_
      refine bnE h (fun p12 e_p12 h => ?_)
      refine vg_cV (pc := 73) (As := [V a3, V a1]) (rest := [V a2]) (mc' := 0) (ms' := 0) (dK D_Mo_hasColored_0 47 rfl) K_Mo_196 (fitK rfl) (ltK rfl) hc0 rfl (leK rfl) (leK rfl) (leK rfl) (tf_Mo_hasPageOn hc0 ha3 ha1 e_p12) (kcB ?_)
      refine vg_ifB_eq (pc := 76) (b := p12) (t := 83) (dK D_Mo_hasColored_0 48 rfl) rfl (fun hc13 => ?_) (fun hc13 => ?_)
      · replace h := ifP h hc13
        refine vg_iconst (pc := 79) (dK D_Mo_hasColored_0 49 rfl) ?_
        refine g_goto (pc := 80) (tgt := 84) (dK D_Mo_hasColored_1 0 rfl) rfl ?_
        refine vg_ior (pc := 84) (dK D_Mo_hasColored_1 2 rfl) ?_
        refine g_istoren (pc := 85) (i0 := 2) (ls2 := [(2, V (i_or a2 1)), (0, .ref c0), (1, V a1), (3, V a3)]) (dK D_Mo_hasColored_1 3 rfl) rfl (ltK rfl) rfl ?_
        refine nmE h (fun v15 e_v15 h => ?_)
        refine vg_iinc (pc := 86) (j := 3) (a := a3) (z := 1) (ls2 := [(3, V v15), (2, V (i_or a2 1)), (0, .ref c0), (1, V a1)]) (dK D_Mo_hasColored_1 4 rfl) rfl e_v15 (ltK rfl) rfl ?_
        refine g_goto (pc := 89) (tgt := 49) (dK D_Mo_hasColored_1 5 rfl) rfl ?_
        refine gL_weak (ls' := [(0, .ref c0), (1, V a1), (2, V (i_or a2 1)), (3, V v15)]) (sbc 2 rfl (sbc 3 rfl (sbc 1 rfl (sbc 0 rfl sbn)))) ?_
        replace h := ih _ h
        exact h (toInt_in _) (Vn_in e_v15)
      · replace h := ifN h hc13
        refine vg_iconst (pc := 83) (dK D_Mo_hasColored_1 1 rfl) ?_
        refine vg_ior (pc := 84) (dK D_Mo_hasColored_1 2 rfl) ?_
        refine g_istoren (pc := 85) (i0 := 2) (ls2 := [(2, V (i_or a2 0)), (0, .ref c0), (1, V a1), (3, V a3)]) (dK D_Mo_hasColored_1 3 rfl) rfl (ltK rfl) rfl ?_
        refine nmE h (fun v14 e_v14 h => ?_)
        refine vg_iinc (pc := 86) (j := 3) (a := a3) (z := 1) (ls2 := [(3, V v14), (2, V (i_or a2 0)), (0, .ref c0), (1, V a1)]) (dK D_Mo_hasColored_1 4 rfl) rfl e_v14 (ltK rfl) rfl ?_
        refine g_goto (pc := 89) (tgt := 49) (dK D_Mo_hasColored_1 5 rfl) rfl ?_
        refine gL_weak (ls' := [(0, .ref c0), (1, V a1), (2, V (i_or a2 0)), (3, V v14)]) (sbc 2 rfl (sbc 3 rfl (sbc 1 rfl (sbc 0 rfl sbn)))) ?_
        replace h := ih _ h
        exact h (toInt_in _) (Vn_in e_v14)
def fn_Mo_hasColored (c0 : Nat) (a1 : Int) (S : St) : Option (Bool) := bnO (lo_Mo_hasColored_4 c0 a1 S FU (0, 0)) fun p9 => bnO (lo_Mo_hasColored_49 c0 a1 S FU (p9, 0)) fun p18 => if p18 = 0 ∨ p18 = 1 then (some (decide (p18 = 1))) else none
theorem tf_Mo_hasColored {E : EV} {X : XT} {c0 : Nat} (hc0 : HC X 11 c0) {a1 : Int} (ha1 : inR a1) {S : St} {q : Bool} (h : fn_Mo_hasColored c0 a1 S = some q) : Ev E M_Mo_hasColored [.ref c0, V a1] (WX X S) 0 0 (KB X q S) := by
  refine Ev.of pn_Mo rfl (leK rfl) ?_
  show Go E M_Mo_hasColored 0 0 0 [(0, .ref c0), (1, V a1)] [] (WX X S) 0 0 (KB X q S)
  unfold fn_Mo_hasColored at h
  refine vg_iconst (pc := 0) (dK D_Mo_hasColored_0 0 rfl) ?_
  refine g_istoren (pc := 1) (i0 := 2) (ls2 := [(2, V 0), (0, .ref c0), (1, V a1)]) (dK D_Mo_hasColored_0 1 rfl) rfl (ltK rfl) rfl ?_
  refine vg_iconst (pc := 2) (dK D_Mo_hasColored_0 2 rfl) ?_
  refine g_istoren (pc := 3) (i0 := 3) (ls2 := [(3, V 0), (2, V 0), (0, .ref c0), (1, V a1)]) (dK D_Mo_hasColored_0 3 rfl) rfl (ltK rfl) rfl ?_
  refine bnE h (fun p9 e_p9 h => ?_)
  refine gL_weak (ls' := [(0, .ref c0), (1, V a1), (2, V 0), (3, V 0)]) (sbc 2 rfl (sbc 3 rfl (sbc 1 rfl (sbc 0 rfl sbn)))) ?_
  refine tl_Mo_hasColored_4 hc0 ha1 (fun hx2_p9 => ?_) FU (0, 0) e_p9 (inRk rfl) (inRk rfl)
  refine vg_iconst (pc := 47) (dK D_Mo_hasColored_0 29 rfl) ?_
  refine g_istoren (pc := 48) (i0 := 3) (ls2 := [(3, V 0), (0, .ref c0), (1, V a1), (2, V p9)]) (dK D_Mo_hasColored_0 30 rfl) rfl (ltK rfl) rfl ?_
  refine bnE h (fun p18 e_p18 h => ?_)
  refine gL_weak (ls' := [(0, .ref c0), (1, V a1), (2, V p9), (3, V 0)]) (sbc 1 rfl (sbc 2 rfl (sbc 3 rfl (sbc 0 rfl sbn)))) ?_
  refine tl_Mo_hasColored_49 hc0 ha1 (fun hx2_p18 => ?_) FU (p9, 0) e_p18 hx2_p9 (inRk rfl)
  refine g_iloadn (pc := 92) (i0 := 2) (j := 0) (dK D_Mo_hasColored_1 6 rfl) rfl rfl ?_
  refine gdE h (fun hb19 h => ?_)
  refine gsk (st' := [V (bi (decide (p18 = 1)))]) (congrArg (fun z => [z]) (V_bi hb19).symm) ?_
  exact vg_iretB (pc := 93) (b := (decide (p18 = 1))) (dK D_Mo_hasColored_1 7 rfl) rfl (leK rfl) (leK rfl) (fun _ => rfl) (by obtain rfl := Option.some.inj h; exact ⟨rfl, rfl⟩)
def fn_Mo_form (c0 : Nat) (a1 : Int) (a2 : Int) (S : St) : Option (Int × St) := nm (u S c0 4 0) fun S1 => bnO (fn_Mo_isForm c0 a1 S1) fun p2 => if p2 = true then (bnO (fn_Mo_throwsIf c0 0 1 S1) fun p4 => if p4.1 = true then (some (0, p4.2)) else (if a2 = 0 then (bnO (fn_Mo_ofForm c0 a1 a2 p4.2) fun p7 => some (p7, p4.2)) else if a2 = 1 then (bnO (fn_Mo_ofForm c0 a1 a2 p4.2) fun p9 => some (p9, p4.2)) else if a2 = 2 then (bnO (fn_Mo_ofForm c0 a1 a2 p4.2) fun p11 => some (p11, p4.2)) else if a2 = 3 then (some ((wr ((g p4.2 c0 2).tdiv 2)), p4.2)) else if a2 = 4 then (bnO (fn_Mo_leftOnForm c0 a1 p4.2) fun p14 => some (p14, p4.2)) else if a2 = 5 then (bnO (fn_Mo_adsOnForm c0 a1 p4.2) fun p16 => some (p16, p4.2)) else if a2 = 6 then (bnO (fn_Mo_lateOnForm c0 a1 p4.2) fun p18 => some (p18, p4.2)) else if a2 = 7 then (bnO (fn_Mo_hasColored c0 a1 p4.2) fun p20 => if p20 = true then (some (1, p4.2)) else (some (0, p4.2))) else (some ((-1), p4.2)))) else (bnO (fn_Mo_throwsIf c0 1 1 S1) fun p22 => if p22.1 = true then (some (0, p22.2)) else (if a2 = 0 then (bnO (fn_Mo_ofForm c0 a1 a2 p22.2) fun p25 => some (p25, p22.2)) else if a2 = 1 then (bnO (fn_Mo_ofForm c0 a1 a2 p22.2) fun p27 => some (p27, p22.2)) else if a2 = 2 then (bnO (fn_Mo_ofForm c0 a1 a2 p22.2) fun p29 => some (p29, p22.2)) else if a2 = 3 then (some ((wr ((g p22.2 c0 2).tdiv 2)), p22.2)) else if a2 = 4 then (bnO (fn_Mo_leftOnForm c0 a1 p22.2) fun p32 => some (p32, p22.2)) else if a2 = 5 then (bnO (fn_Mo_adsOnForm c0 a1 p22.2) fun p34 => some (p34, p22.2)) else if a2 = 6 then (bnO (fn_Mo_lateOnForm c0 a1 p22.2) fun p36 => some (p36, p22.2)) else if a2 = 7 then (bnO (fn_Mo_hasColored c0 a1 p22.2) fun p38 => if p38 = true then (some (1, p22.2)) else (some (0, p22.2))) else (some ((-1), p22.2))))
theorem tf_Mo_form {E : EV} {X : XT} {c0 : Nat} (hc0 : HC X 11 c0) {a1 : Int} (ha1 : inR a1) {a2 : Int} (ha2 : inR a2) {S : St} {q : Int × St} (h : fn_Mo_form c0 a1 a2 S = some q) : Ev E M_Mo_form [.ref c0, V a1, V a2] (WX X S) 0 0 (KI X q.1 q.2) := by
  refine Ev.of pn_Mo rfl (leK rfl) ?_
  show Go E M_Mo_form 0 0 0 [(0, .ref c0), (1, V a1), (2, V a2)] [] (WX X S) 0 0 (KI X q.1 q.2)
  unfold fn_Mo_form at h
  refine g_aloadn (pc := 0) (i0 := 0) (j := 0) (dK D_Mo_form 0 rfl) rfl rfl ?_
  refine vg_iconst (pc := 1) (dK D_Mo_form 1 rfl) ?_
  refine nmE h (fun S1 e_S1 h => ?_)
  refine vg_putI (pc := 2) (ci := 11) (f := 4) (z := 0) (dK D_Mo_form 2 rfl) q_1446 hc0 (ltK rfl) (ltK rfl) rfl rfl e_S1 ?_
  refine g_aloadn (pc := 5) (i0 := 0) (j := 0) (dK D_Mo_form 3 rfl) rfl rfl ?_
  refine g_aloadn (pc := 6) (i0 := 0) (j := 0) (dK D_Mo_form 4 rfl) rfl rfl ?_
  refine g_iloadn (pc := 7) (i0 := 1) (j := 1) (dK D_Mo_form 5 rfl) rfl rfl ?_
  refine bnE h (fun p2 e_p2 h => ?_)
  refine vg_cV (pc := 8) (As := [V a1]) (rest := [.ref c0]) (mc' := 0) (ms' := 0) (dK D_Mo_form 6 rfl) K_Mo_199 (fitK rfl) (ltK rfl) hc0 rfl (leK rfl) (leK rfl) (leK rfl) (tf_Mo_isForm hc0 ha1 e_p2) (kcB ?_)
  refine vg_ifB_ne (pc := 11) (b := p2) (t := 18) (dK D_Mo_form 7 rfl) rfl (fun hc3 => ?_) (fun hc3 => ?_)
  · replace h := ifP h hc3
    refine vg_iconst (pc := 18) (dK D_Mo_form 10 rfl) ?_
    refine vg_iconst (pc := 19) (dK D_Mo_form 11 rfl) ?_
    refine bnE h (fun p4 e_p4 h => ?_)
    refine vg_cV (pc := 20) (As := [V 0, V 1]) (rest := []) (mc' := 0) (ms' := 0) (dK D_Mo_form 12 rfl) K_Mo_125 (fitK rfl) (ltK rfl) hc0 rfl (leK rfl) (leK rfl) (leK rfl) (tf_Mo_throwsIf hc0 (inRk rfl) (inRk rfl) e_p4) (kcB ?_)
    refine vg_ifB_eq (pc := 23) (b := p4.1) (t := 28) (dK D_Mo_form 13 rfl) rfl (fun hc5 => ?_) (fun hc5 => ?_)
    · replace h := ifP h hc5
      refine vg_iconst (pc := 26) (dK D_Mo_form 14 rfl) ?_
      exact vg_iretI (pc := 27) (r := 0) (dK D_Mo_form 15 rfl) rfl (leK rfl) (leK rfl) (fun _ => rfl) (by obtain rfl := Option.some.inj h; exact ⟨rfl, (inRk rfl), rfl⟩)
    · replace h := ifN h hc5
      refine g_iloadn (pc := 28) (i0 := 2) (j := 2) (dK D_Mo_form 16 rfl) rfl rfl ?_
      by_cases hk6 : a2 = 0
      · have h := ifP h hk6
        refine vg_tabK (pc := 29) (kk := 0) (t := 76) (dK D_Mo_form 17 rfl) hk6 rfl rfl rfl rfl ?_
        refine g_aloadn (pc := 76) (i0 := 0) (j := 0) (dK D_Mo_form 18 rfl) rfl rfl ?_
        refine g_iloadn (pc := 77) (i0 := 1) (j := 1) (dK D_Mo_form 19 rfl) rfl rfl ?_
        refine g_iloadn (pc := 78) (i0 := 2) (j := 2) (dK D_Mo_form 20 rfl) rfl rfl ?_
        refine bnE h (fun p7 e_p7 h => ?_)
        refine vg_cV (pc := 79) (As := [V a1, V a2]) (rest := []) (mc' := 0) (ms' := 0) (dK D_Mo_form 21 rfl) K_Mo_78 (fitK rfl) (ltK rfl) hc0 rfl (leK rfl) (leK rfl) (leK rfl) (tf_Mo_ofForm hc0 ha1 ha2 e_p7) (kcI (fun h_p7 => ?_))
        exact vg_iretI (pc := 82) (r := p7) (dK D_Mo_form 22 rfl) rfl (leK rfl) (leK rfl) (fun _ => rfl) (by obtain rfl := Option.some.inj h; exact ⟨rfl, h_p7, rfl⟩)
      replace h := ifN h hk6
      by_cases hk8 : a2 = 1
      · have h := ifP h hk8
        refine vg_tabK (pc := 29) (kk := 1) (t := 76) (dK D_Mo_form 17 rfl) hk8 rfl rfl rfl rfl ?_
        refine g_aloadn (pc := 76) (i0 := 0) (j := 0) (dK D_Mo_form 18 rfl) rfl rfl ?_
        refine g_iloadn (pc := 77) (i0 := 1) (j := 1) (dK D_Mo_form 19 rfl) rfl rfl ?_
        refine g_iloadn (pc := 78) (i0 := 2) (j := 2) (dK D_Mo_form 20 rfl) rfl rfl ?_
        refine bnE h (fun p9 e_p9 h => ?_)
        refine vg_cV (pc := 79) (As := [V a1, V a2]) (rest := []) (mc' := 0) (ms' := 0) (dK D_Mo_form 21 rfl) K_Mo_78 (fitK rfl) (ltK rfl) hc0 rfl (leK rfl) (leK rfl) (leK rfl) (tf_Mo_ofForm hc0 ha1 ha2 e_p9) (kcI (fun h_p9 => ?_))
        exact vg_iretI (pc := 82) (r := p9) (dK D_Mo_form 22 rfl) rfl (leK rfl) (leK rfl) (fun _ => rfl) (by obtain rfl := Option.some.inj h; exact ⟨rfl, h_p9, rfl⟩)
      replace h := ifN h hk8
      by_cases hk10 : a2 = 2
      · have h := ifP h hk10
        refine vg_tabK (pc := 29) (kk := 2) (t := 76) (dK D_Mo_form 17 rfl) hk10 rfl rfl rfl rfl ?_
        refine g_aloadn (pc := 76) (i0 := 0) (j := 0) (dK D_Mo_form 18 rfl) rfl rfl ?_
        refine g_iloadn (pc := 77) (i0 := 1) (j := 1) (dK D_Mo_form 19 rfl) rfl rfl ?_
        refine g_iloadn (pc := 78) (i0 := 2) (j := 2) (dK D_Mo_form 20 rfl) rfl rfl ?_
        refine bnE h (fun p11 e_p11 h => ?_)
        refine vg_cV (pc := 79) (As := [V a1, V a2]) (rest := []) (mc' := 0) (ms' := 0) (dK D_Mo_form 21 rfl) K_Mo_78 (fitK rfl) (ltK rfl) hc0 rfl (leK rfl) (leK rfl) (leK rfl) (tf_Mo_ofForm hc0 ha1 ha2 e_p11) (kcI (fun h_p11 => ?_))
        exact vg_iretI (pc := 82) (r := p11) (dK D_Mo_form 22 rfl) rfl (leK rfl) (leK rfl) (fun _ => rfl) (by obtain rfl := Option.some.inj h; exact ⟨rfl, h_p11, rfl⟩)
      replace h := ifN h hk10
      by_cases hk12 : a2 = 3
      · have h := ifP h hk12
        refine vg_tabK (pc := 29) (kk := 3) (t := 83) (dK D_Mo_form 17 rfl) hk12 rfl rfl rfl rfl ?_
        refine g_aloadn (pc := 83) (i0 := 0) (j := 0) (dK D_Mo_form 23 rfl) rfl rfl ?_
        refine vg_getI (pc := 84) (ci := 11) (f := 2) (dK D_Mo_form 24 rfl) q_1444 hc0 (ltK rfl) (ltK rfl) rfl ?_
        refine vg_iconst (pc := 87) (dK D_Mo_form 25 rfl) ?_
        refine vg_idiv (pc := 88) (dK D_Mo_form 26 rfl) (g_in _ _ _) (inRk rfl) (by decide) ?_
        refine gtop (x := (wr ((g p4.2 c0 2).tdiv 2))) rfl ?_
        exact vg_iretI (pc := 89) (r := (wr ((g p4.2 c0 2).tdiv 2))) (dK D_Mo_form 27 rfl) rfl (leK rfl) (leK rfl) (fun _ => rfl) (by obtain rfl := Option.some.inj h; exact ⟨rfl, (wr_in _), rfl⟩)
      replace h := ifN h hk12
      by_cases hk13 : a2 = 4
      · have h := ifP h hk13
        refine vg_tabK (pc := 29) (kk := 4) (t := 90) (dK D_Mo_form 17 rfl) hk13 rfl rfl rfl rfl ?_
        refine g_aloadn (pc := 90) (i0 := 0) (j := 0) (dK D_Mo_form 28 rfl) rfl rfl ?_
        refine g_iloadn (pc := 91) (i0 := 1) (j := 1) (dK D_Mo_form 29 rfl) rfl rfl ?_
        refine bnE h (fun p14 e_p14 h => ?_)
        refine vg_cV (pc := 92) (As := [V a1]) (rest := []) (mc' := 0) (ms' := 0) (dK D_Mo_form 30 rfl) K_Mo_202 (fitK rfl) (ltK rfl) hc0 rfl (leK rfl) (leK rfl) (leK rfl) (tf_Mo_leftOnForm hc0 ha1 e_p14) (kcI (fun h_p14 => ?_))
        exact vg_iretI (pc := 95) (r := p14) (dK D_Mo_form 31 rfl) rfl (leK rfl) (leK rfl) (fun _ => rfl) (by obtain rfl := Option.some.inj h; exact ⟨rfl, h_p14, rfl⟩)
      replace h := ifN h hk13
      by_cases hk15 : a2 = 5
      · have h := ifP h hk15
        refine vg_tabK (pc := 29) (kk := 5) (t := 96) (dK D_Mo_form 17 rfl) hk15 rfl rfl rfl rfl ?_
        refine g_aloadn (pc := 96) (i0 := 0) (j := 0) (dK D_Mo_form 32 rfl) rfl rfl ?_
        refine g_iloadn (pc := 97) (i0 := 1) (j := 1) (dK D_Mo_form 33 rfl) rfl rfl ?_
        refine bnE h (fun p16 e_p16 h => ?_)
        refine vg_cV (pc := 98) (As := [V a1]) (rest := []) (mc' := 0) (ms' := 0) (dK D_Mo_form 34 rfl) K_Mo_205 (fitK rfl) (ltK rfl) hc0 rfl (leK rfl) (leK rfl) (leK rfl) (tf_Mo_adsOnForm hc0 ha1 e_p16) (kcI (fun h_p16 => ?_))
        exact vg_iretI (pc := 101) (r := p16) (dK D_Mo_form 35 rfl) rfl (leK rfl) (leK rfl) (fun _ => rfl) (by obtain rfl := Option.some.inj h; exact ⟨rfl, h_p16, rfl⟩)
      replace h := ifN h hk15
      by_cases hk17 : a2 = 6
      · have h := ifP h hk17
        refine vg_tabK (pc := 29) (kk := 6) (t := 102) (dK D_Mo_form 17 rfl) hk17 rfl rfl rfl rfl ?_
        refine g_aloadn (pc := 102) (i0 := 0) (j := 0) (dK D_Mo_form 36 rfl) rfl rfl ?_
        refine g_iloadn (pc := 103) (i0 := 1) (j := 1) (dK D_Mo_form 37 rfl) rfl rfl ?_
        refine bnE h (fun p18 e_p18 h => ?_)
        refine vg_cV (pc := 104) (As := [V a1]) (rest := []) (mc' := 0) (ms' := 0) (dK D_Mo_form 38 rfl) K_Mo_208 (fitK rfl) (ltK rfl) hc0 rfl (leK rfl) (leK rfl) (leK rfl) (tf_Mo_lateOnForm hc0 ha1 e_p18) (kcI (fun h_p18 => ?_))
        exact vg_iretI (pc := 107) (r := p18) (dK D_Mo_form 39 rfl) rfl (leK rfl) (leK rfl) (fun _ => rfl) (by obtain rfl := Option.some.inj h; exact ⟨rfl, h_p18, rfl⟩)
      replace h := ifN h hk17
      by_cases hk19 : a2 = 7
      · have h := ifP h hk19
        refine vg_tabK (pc := 29) (kk := 7) (t := 108) (dK D_Mo_form 17 rfl) hk19 rfl rfl rfl rfl ?_
        refine g_aloadn (pc := 108) (i0 := 0) (j := 0) (dK D_Mo_form 40 rfl) rfl rfl ?_
        refine g_iloadn (pc := 109) (i0 := 1) (j := 1) (dK D_Mo_form 41 rfl) rfl rfl ?_
        refine bnE h (fun p20 e_p20 h => ?_)
        refine vg_cV (pc := 110) (As := [V a1]) (rest := []) (mc' := 0) (ms' := 0) (dK D_Mo_form 42 rfl) K_Mo_211 (fitK rfl) (ltK rfl) hc0 rfl (leK rfl) (leK rfl) (leK rfl) (tf_Mo_hasColored hc0 ha1 e_p20) (kcB ?_)
        refine vg_ifB_eq (pc := 113) (b := p20) (t := 120) (dK D_Mo_form 43 rfl) rfl (fun hc21 => ?_) (fun hc21 => ?_)
        · replace h := ifP h hc21
          refine vg_iconst (pc := 116) (dK D_Mo_form 44 rfl) ?_
          refine g_goto (pc := 117) (tgt := 121) (dK D_Mo_form 45 rfl) rfl ?_
          exact vg_iretI (pc := 121) (r := 1) (dK D_Mo_form 47 rfl) rfl (leK rfl) (leK rfl) (fun _ => rfl) (by obtain rfl := Option.some.inj h; exact ⟨rfl, (inRk rfl), rfl⟩)
        · replace h := ifN h hc21
          refine vg_iconst (pc := 120) (dK D_Mo_form 46 rfl) ?_
          exact vg_iretI (pc := 121) (r := 0) (dK D_Mo_form 47 rfl) rfl (leK rfl) (leK rfl) (fun _ => rfl) (by obtain rfl := Option.some.inj h; exact ⟨rfl, (inRk rfl), rfl⟩)
      replace h := ifN h hk19
      refine vg_tabD (pc := 29) (t := 122) (lo := 0) (hi := 7) (dK D_Mo_form 17 rfl) ha2 (by omega) rfl ?_
      refine vg_iconst (pc := 122) (dK D_Mo_form 48 rfl) ?_
      exact vg_iretI (pc := 123) (r := (-1)) (dK D_Mo_form 49 rfl) rfl (leK rfl) (leK rfl) (fun _ => rfl) (by obtain rfl := Option.some.inj h; exact ⟨rfl, (inRk rfl), rfl⟩)
  · replace h := ifN h hc3
    refine vg_iconst (pc := 14) (dK D_Mo_form 8 rfl) ?_
    refine g_goto (pc := 15) (tgt := 19) (dK D_Mo_form 9 rfl) rfl ?_
    refine vg_iconst (pc := 19) (dK D_Mo_form 11 rfl) ?_
    refine bnE h (fun p22 e_p22 h => ?_)
    refine vg_cV (pc := 20) (As := [V 1, V 1]) (rest := []) (mc' := 0) (ms' := 0) (dK D_Mo_form 12 rfl) K_Mo_125 (fitK rfl) (ltK rfl) hc0 rfl (leK rfl) (leK rfl) (leK rfl) (tf_Mo_throwsIf hc0 (inRk rfl) (inRk rfl) e_p22) (kcB ?_)
    refine vg_ifB_eq (pc := 23) (b := p22.1) (t := 28) (dK D_Mo_form 13 rfl) rfl (fun hc23 => ?_) (fun hc23 => ?_)
    · replace h := ifP h hc23
      refine vg_iconst (pc := 26) (dK D_Mo_form 14 rfl) ?_
      exact vg_iretI (pc := 27) (r := 0) (dK D_Mo_form 15 rfl) rfl (leK rfl) (leK rfl) (fun _ => rfl) (by obtain rfl := Option.some.inj h; exact ⟨rfl, (inRk rfl), rfl⟩)
    · replace h := ifN h hc23
      refine g_iloadn (pc := 28) (i0 := 2) (j := 2) (dK D_Mo_form 16 rfl) rfl rfl ?_
      by_cases hk24 : a2 = 0
      · have h := ifP h hk24
        refine vg_tabK (pc := 29) (kk := 0) (t := 76) (dK D_Mo_form 17 rfl) hk24 rfl rfl rfl rfl ?_
        refine g_aloadn (pc := 76) (i0 := 0) (j := 0) (dK D_Mo_form 18 rfl) rfl rfl ?_
        refine g_iloadn (pc := 77) (i0 := 1) (j := 1) (dK D_Mo_form 19 rfl) rfl rfl ?_
        refine g_iloadn (pc := 78) (i0 := 2) (j := 2) (dK D_Mo_form 20 rfl) rfl rfl ?_
        refine bnE h (fun p25 e_p25 h => ?_)
        refine vg_cV (pc := 79) (As := [V a1, V a2]) (rest := []) (mc' := 0) (ms' := 0) (dK D_Mo_form 21 rfl) K_Mo_78 (fitK rfl) (ltK rfl) hc0 rfl (leK rfl) (leK rfl) (leK rfl) (tf_Mo_ofForm hc0 ha1 ha2 e_p25) (kcI (fun h_p25 => ?_))
        exact vg_iretI (pc := 82) (r := p25) (dK D_Mo_form 22 rfl) rfl (leK rfl) (leK rfl) (fun _ => rfl) (by obtain rfl := Option.some.inj h; exact ⟨rfl, h_p25, rfl⟩)
      replace h := ifN h hk24
      by_cases hk26 : a2 = 1
      · have h := ifP h hk26
        refine vg_tabK (pc := 29) (kk := 1) (t := 76) (dK D_Mo_form 17 rfl) hk26 rfl rfl rfl rfl ?_
        refine g_aloadn (pc := 76) (i0 := 0) (j := 0) (dK D_Mo_form 18 rfl) rfl rfl ?_
        refine g_iloadn (pc := 77) (i0 := 1) (j := 1) (dK D_Mo_form 19 rfl) rfl rfl ?_
        refine g_iloadn (pc := 78) (i0 := 2) (j := 2) (dK D_Mo_form 20 rfl) rfl rfl ?_
        refine bnE h (fun p27 e_p27 h => ?_)
        refine vg_cV (pc := 79) (As := [V a1, V a2]) (rest := []) (mc' := 0) (ms' := 0) (dK D_Mo_form 21 rfl) K_Mo_78 (fitK rfl) (ltK rfl) hc0 rfl (leK rfl) (leK rfl) (leK rfl) (tf_Mo_ofForm hc0 ha1 ha2 e_p27) (kcI (fun h_p27 => ?_))
        exact vg_iretI (pc := 82) (r := p27) (dK D_Mo_form 22 rfl) rfl (leK rfl) (leK rfl) (fun _ => rfl) (by obtain rfl := Option.some.inj h; exact ⟨rfl, h_p27, rfl⟩)
      replace h := ifN h hk26
      by_cases hk28 : a2 = 2
      · have h := ifP h hk28
        refine vg_tabK (pc := 29) (kk := 2) (t := 76) (dK D_Mo_form 17 rfl) hk28 rfl rfl rfl rfl ?_
        refine g_aloadn (pc := 76) (i0 := 0) (j := 0) (dK D_Mo_form 18 rfl) rfl rfl ?_
        refine g_iloadn (pc := 77) (i0 := 1) (j := 1) (dK D_Mo_form 19 rfl) rfl rfl ?_
        refine g_iloadn (pc := 78) (i0 := 2) (j := 2) (dK D_Mo_form 20 rfl) rfl rfl ?_
        refine bnE h (fun p29 e_p29 h => ?_)
        refine vg_cV (pc := 79) (As := [V a1, V a2]) (rest := []) (mc' := 0) (ms' := 0) (dK D_Mo_form 21 rfl) K_Mo_78 (fitK rfl) (ltK rfl) hc0 rfl (leK rfl) (leK rfl) (leK rfl) (tf_Mo_ofForm hc0 ha1 ha2 e_p29) (kcI (fun h_p29 => ?_))
        exact vg_iretI (pc := 82) (r := p29) (dK D_Mo_form 22 rfl) rfl (leK rfl) (leK rfl) (fun _ => rfl) (by obtain rfl := Option.some.inj h; exact ⟨rfl, h_p29, rfl⟩)
      replace h := ifN h hk28
      by_cases hk30 : a2 = 3
      · have h := ifP h hk30
        refine vg_tabK (pc := 29) (kk := 3) (t := 83) (dK D_Mo_form 17 rfl) hk30 rfl rfl rfl rfl ?_
        refine g_aloadn (pc := 83) (i0 := 0) (j := 0) (dK D_Mo_form 23 rfl) rfl rfl ?_
        refine vg_getI (pc := 84) (ci := 11) (f := 2) (dK D_Mo_form 24 rfl) q_1444 hc0 (ltK rfl) (ltK rfl) rfl ?_
        refine vg_iconst (pc := 87) (dK D_Mo_form 25 rfl) ?_
        refine vg_idiv (pc := 88) (dK D_Mo_form 26 rfl) (g_in _ _ _) (inRk rfl) (by decide) ?_
        refine gtop (x := (wr ((g p22.2 c0 2).tdiv 2))) rfl ?_
        exact vg_iretI (pc := 89) (r := (wr ((g p22.2 c0 2).tdiv 2))) (dK D_Mo_form 27 rfl) rfl (leK rfl) (leK rfl) (fun _ => rfl) (by obtain rfl := Option.some.inj h; exact ⟨rfl, (wr_in _), rfl⟩)
      replace h := ifN h hk30
      by_cases hk31 : a2 = 4
      · have h := ifP h hk31
        refine vg_tabK (pc := 29) (kk := 4) (t := 90) (dK D_Mo_form 17 rfl) hk31 rfl rfl rfl rfl ?_
        refine g_aloadn (pc := 90) (i0 := 0) (j := 0) (dK D_Mo_form 28 rfl) rfl rfl ?_
        refine g_iloadn (pc := 91) (i0 := 1) (j := 1) (dK D_Mo_form 29 rfl) rfl rfl ?_
        refine bnE h (fun p32 e_p32 h => ?_)
        refine vg_cV (pc := 92) (As := [V a1]) (rest := []) (mc' := 0) (ms' := 0) (dK D_Mo_form 30 rfl) K_Mo_202 (fitK rfl) (ltK rfl) hc0 rfl (leK rfl) (leK rfl) (leK rfl) (tf_Mo_leftOnForm hc0 ha1 e_p32) (kcI (fun h_p32 => ?_))
        exact vg_iretI (pc := 95) (r := p32) (dK D_Mo_form 31 rfl) rfl (leK rfl) (leK rfl) (fun _ => rfl) (by obtain rfl := Option.some.inj h; exact ⟨rfl, h_p32, rfl⟩)
      replace h := ifN h hk31
      by_cases hk33 : a2 = 5
      · have h := ifP h hk33
        refine vg_tabK (pc := 29) (kk := 5) (t := 96) (dK D_Mo_form 17 rfl) hk33 rfl rfl rfl rfl ?_
        refine g_aloadn (pc := 96) (i0 := 0) (j := 0) (dK D_Mo_form 32 rfl) rfl rfl ?_
        refine g_iloadn (pc := 97) (i0 := 1) (j := 1) (dK D_Mo_form 33 rfl) rfl rfl ?_
        refine bnE h (fun p34 e_p34 h => ?_)
        refine vg_cV (pc := 98) (As := [V a1]) (rest := []) (mc' := 0) (ms' := 0) (dK D_Mo_form 34 rfl) K_Mo_205 (fitK rfl) (ltK rfl) hc0 rfl (leK rfl) (leK rfl) (leK rfl) (tf_Mo_adsOnForm hc0 ha1 e_p34) (kcI (fun h_p34 => ?_))
        exact vg_iretI (pc := 101) (r := p34) (dK D_Mo_form 35 rfl) rfl (leK rfl) (leK rfl) (fun _ => rfl) (by obtain rfl := Option.some.inj h; exact ⟨rfl, h_p34, rfl⟩)
      replace h := ifN h hk33
      by_cases hk35 : a2 = 6
      · have h := ifP h hk35
        refine vg_tabK (pc := 29) (kk := 6) (t := 102) (dK D_Mo_form 17 rfl) hk35 rfl rfl rfl rfl ?_
        refine g_aloadn (pc := 102) (i0 := 0) (j := 0) (dK D_Mo_form 36 rfl) rfl rfl ?_
        refine g_iloadn (pc := 103) (i0 := 1) (j := 1) (dK D_Mo_form 37 rfl) rfl rfl ?_
        refine bnE h (fun p36 e_p36 h => ?_)
        refine vg_cV (pc := 104) (As := [V a1]) (rest := []) (mc' := 0) (ms' := 0) (dK D_Mo_form 38 rfl) K_Mo_208 (fitK rfl) (ltK rfl) hc0 rfl (leK rfl) (leK rfl) (leK rfl) (tf_Mo_lateOnForm hc0 ha1 e_p36) (kcI (fun h_p36 => ?_))
        exact vg_iretI (pc := 107) (r := p36) (dK D_Mo_form 39 rfl) rfl (leK rfl) (leK rfl) (fun _ => rfl) (by obtain rfl := Option.some.inj h; exact ⟨rfl, h_p36, rfl⟩)
      replace h := ifN h hk35
      by_cases hk37 : a2 = 7
      · have h := ifP h hk37
        refine vg_tabK (pc := 29) (kk := 7) (t := 108) (dK D_Mo_form 17 rfl) hk37 rfl rfl rfl rfl ?_
        refine g_aloadn (pc := 108) (i0 := 0) (j := 0) (dK D_Mo_form 40 rfl) rfl rfl ?_
        refine g_iloadn (pc := 109) (i0 := 1) (j := 1) (dK D_Mo_form 41 rfl) rfl rfl ?_
        refine bnE h (fun p38 e_p38 h => ?_)
        refine vg_cV (pc := 110) (As := [V a1]) (rest := []) (mc' := 0) (ms' := 0) (dK D_Mo_form 42 rfl) K_Mo_211 (fitK rfl) (ltK rfl) hc0 rfl (leK rfl) (leK rfl) (leK rfl) (tf_Mo_hasColored hc0 ha1 e_p38) (kcB ?_)
        refine vg_ifB_eq (pc := 113) (b := p38) (t := 120) (dK D_Mo_form 43 rfl) rfl (fun hc39 => ?_) (fun hc39 => ?_)
        · replace h := ifP h hc39
          refine vg_iconst (pc := 116) (dK D_Mo_form 44 rfl) ?_
          refine g_goto (pc := 117) (tgt := 121) (dK D_Mo_form 45 rfl) rfl ?_
          exact vg_iretI (pc := 121) (r := 1) (dK D_Mo_form 47 rfl) rfl (leK rfl) (leK rfl) (fun _ => rfl) (by obtain rfl := Option.some.inj h; exact ⟨rfl, (inRk rfl), rfl⟩)
        · replace h := ifN h hc39
          refine vg_iconst (pc := 120) (dK D_Mo_form 46 rfl) ?_
          exact vg_iretI (pc := 121) (r := 0) (dK D_Mo_form 47 rfl) rfl (leK rfl) (leK rfl) (fun _ => rfl) (by obtain rfl := Option.some.inj h; exact ⟨rfl, (inRk rfl), rfl⟩)
      replace h := ifN h hk37
      refine vg_tabD (pc := 29) (t := 122) (lo := 0) (hi := 7) (dK D_Mo_form 17 rfl) ha2 (by omega) rfl ?_
      refine vg_iconst (pc := 122) (dK D_Mo_form 48 rfl) ?_
      exact vg_iretI (pc := 123) (r := (-1)) (dK D_Mo_form 49 rfl) rfl (leK rfl) (leK rfl) (fun _ => rfl) (by obtain rfl := Option.some.inj h; exact ⟨rfl, (inRk rfl), rfl⟩)
def lb_Mo_pageOf_33 (c0 : Nat) (a1 : Int) (S : St) (go : Int × Int → Option ((Int) ⊕ (Unit))) (a3 : Int) (a4 : Int) : Option ((Int) ⊕ (Unit)) := bnO (fn_Mo_pageMany c0 S) fun p6 => if p6 < a4 then (some (.inr ())) else (bnO (fn_Mo_formOf c0 a4 S) fun p7 => if p7 = a1 then (if a3 = 0 then (some (.inl a4)) else (nm (wr (a3 + (-1))) fun v8 => nm (wr (a4 + 1)) fun v9 => go (v8, v9))) else (nm (wr (a4 + 1)) fun v11 => go (a3, v11)))
def lo_Mo_pageOf_33 (c0 : Nat) (a1 : Int) (S : St) : Nat → Int × Int → Option ((Int) ⊕ (Unit)) := lp fun go p => lb_Mo_pageOf_33 c0 a1 S go p.1 p.2
theorem tl_Mo_pageOf_33 {E : EV} {X : XT} {c0 : Nat} (hc0 : HC X 11 c0) {a1 : Int} (ha1 : inR a1) {S : St} {K : RK → PS → Prop} {q : (Int) ⊕ (Unit)} (hx : ∀ p, q = .inr p → Go E M_Mo_pageOf 0 0 71 [] [] (WX X S) 0 0 K) (hr : ∀ p, q = .inl p → inR p → K (.inl (some (V p))) (WX X S)) : ∀ n a, lo_Mo_pageOf_33 c0 a1 S n a = some q → inR a.1 → inR a.2 → Go E M_Mo_pageOf 0 0 33 [(0, .ref c0), (1, V a1), (3, V a.1), (4, V a.2)] [] (WX X S) 0 0 K := by
  refine lp_ind (P := fun a : Int × Int => inR a.1 → inR a.2 → Go E M_Mo_pageOf 0 0 33 [(0, .ref c0), (1, V a1), (3, V a.1), (4, V a.2)] [] (WX X S) 0 0 K) (fun go ih a h => ?_)
  obtain ⟨a3, a4⟩ := a
  intro ha3 ha4
  show Go E M_Mo_pageOf 0 0 33 [(0, .ref c0), (1, V a1), (3, V a3), (4, V a4)] [] (WX X S) 0 0 K
  replace h : lb_Mo_pageOf_33 c0 a1 S go a3 a4 = some q := h
  unfold lb_Mo_pageOf_33 at h
  refine g_iload (pc := 33) (j := 3) (dK D_Mo_pageOf 20 rfl) rfl ?_
  refine g_aloadn (pc := 35) (i0 := 0) (j := 0) (dK D_Mo_pageOf 21 rfl) rfl rfl ?_
  refine bnE h (fun p6 e_p6 h => ?_)
  refine vg_cV (pc := 36) (As := []) (rest := [V a4]) (mc' := 0) (ms' := 0) (dK D_Mo_pageOf 22 rfl) K_Mo_63 (fitK rfl) (ltK rfl) hc0 rfl (leK rfl) (leK rfl) (leK rfl) (tf_Mo_pageMany hc0 e_p6) (kcI (fun h_p6 => ?_))
  refine vg_icmp_gt (pc := 39) (t := 71) (dK D_Mo_pageOf 23 rfl) rfl ha4 h_p6 (fun hc13 => ?_) (fun hc13 => ?_)
  · replace h := ifP h hc13
    refine gL_weak (ls' := []) sbn ?_
    exact hx _ (Option.some.inj h).symm 
  · replace h := ifN h hc13
    refine g_aloadn (pc := 42) (i0 := 0) (j := 0) (dK D_Mo_pageOf 24 rfl) rfl rfl ?_
    refine g_iload (pc := 43) (j := 3) (dK D_Mo_pageOf 25 rfl) rfl ?_
    refine bnE h (fun p7 e_p7 h => ?_)
    refine vg_cV (pc := 45) (As := [V a4]) (rest := []) (mc' := 0) (ms' := 0) (dK D_Mo_pageOf 26 rfl) K_Mo_74 (fitK rfl) (ltK rfl) hc0 rfl (leK rfl) (leK rfl) (leK rfl) (tf_Mo_formOf hc0 ha4 e_p7) (kcI (fun h_p7 => ?_))
    refine g_iloadn (pc := 48) (i0 := 1) (j := 1) (dK D_Mo_pageOf 27 rfl) rfl rfl ?_
    refine vg_icmp_eq (pc := 49) (t := 55) (dK D_Mo_pageOf 28 rfl) rfl h_p7 ha1 (fun hc12 => ?_) (fun hc12 => ?_)
    · replace h := ifP h hc12
      refine g_iloadn (pc := 55) (i0 := 3) (j := 2) (dK D_Mo_pageOf 30 rfl) rfl rfl ?_
      refine vg_if_ne (pc := 56) (t := 62) (dK D_Mo_pageOf 31 rfl) rfl ha3 (fun hc10 => ?_) (fun hc10 => ?_)
      · replace h := ifN h hc10
        refine nmE h (fun v8 e_v8 h => ?_)
        refine vg_iinc (pc := 62) (j := 2) (a := a3) (z := -1) (ls2 := [(3, V v8), (0, .ref c0), (1, V a1), (4, V a4)]) (dK D_Mo_pageOf 34 rfl) rfl e_v8 (ltK rfl) rfl ?_
        refine nmE h (fun v9 e_v9 h => ?_)
        refine vg_iinc (pc := 65) (j := 3) (a := a4) (z := 1) (ls2 := [(4, V v9), (3, V v8), (0, .ref c0), (1, V a1)]) (dK D_Mo_pageOf 35 rfl) rfl e_v9 (ltK rfl) rfl ?_
        refine g_goto (pc := 68) (tgt := 33) (dK D_Mo_pageOf 36 rfl) rfl ?_
        refine gL_weak (ls' := [(0, .ref c0), (1, V a1), (3, V v8), (4, V v9)]) (sbc 2 rfl (sbc 3 rfl (sbc 1 rfl (sbc 0 rfl sbn)))) ?_
        replace h := ih _ h
        exact h (Vn_in e_v8) (Vn_in e_v9)
      · replace h := ifP h hc10
        refine g_iload (pc := 59) (j := 3) (dK D_Mo_pageOf 32 rfl) rfl ?_
        exact vg_iretI (pc := 61) (r := a4) (dK D_Mo_pageOf 33 rfl) rfl (leK rfl) (leK rfl) (fun _ => rfl) (hr _ (Option.some.inj h).symm ha4)
    · replace h := ifN h hc12
      refine g_goto (pc := 52) (tgt := 65) (dK D_Mo_pageOf 29 rfl) rfl ?_
      refine nmE h (fun v11 e_v11 h => ?_)
      refine vg_iinc (pc := 65) (j := 3) (a := a4) (z := 1) (ls2 := [(4, V v11), (0, .ref c0), (1, V a1), (3, V a3)]) (dK D_Mo_pageOf 35 rfl) rfl e_v11 (ltK rfl) rfl ?_
      refine g_goto (pc := 68) (tgt := 33) (dK D_Mo_pageOf 36 rfl) rfl ?_
      refine gL_weak (ls' := [(0, .ref c0), (1, V a1), (3, V a3), (4, V v11)]) (sbc 1 rfl (sbc 2 rfl (sbc 3 rfl (sbc 0 rfl sbn)))) ?_
      replace h := ih _ h
      exact h ha3 (Vn_in e_v11)
def fn_Mo_pageOf (c0 : Nat) (a1 : Int) (a2 : Int) (S : St) : Option (Int × St) := nm (u S c0 4 0) fun S1 => bnO (fn_Mo_isForm c0 a1 S1) fun p2 => if p2 = true then (bnO (fn_Mo_throwsIf c0 0 1 S1) fun p4 => if p4.1 = true then (some (0, p4.2)) else (bnS (lo_Mo_pageOf_33 c0 a1 p4.2 FU (a2, 1)) (fun p15 => some (p15, p4.2)) fun p14 => some ((-1), p4.2))) else (bnO (fn_Mo_throwsIf c0 1 1 S1) fun p16 => if p16.1 = true then (some (0, p16.2)) else (bnS (lo_Mo_pageOf_33 c0 a1 p16.2 FU (a2, 1)) (fun p19 => some (p19, p16.2)) fun p18 => some ((-1), p16.2)))
theorem tf_Mo_pageOf {E : EV} {X : XT} {c0 : Nat} (hc0 : HC X 11 c0) {a1 : Int} (ha1 : inR a1) {a2 : Int} (ha2 : inR a2) {S : St} {q : Int × St} (h : fn_Mo_pageOf c0 a1 a2 S = some q) : Ev E M_Mo_pageOf [.ref c0, V a1, V a2] (WX X S) 0 0 (KI X q.1 q.2) := by
  refine Ev.of pn_Mo rfl (leK rfl) ?_
  show Go E M_Mo_pageOf 0 0 0 [(0, .ref c0), (1, V a1), (2, V a2)] [] (WX X S) 0 0 (KI X q.1 q.2)
  unfold fn_Mo_pageOf at h
  refine g_aloadn (pc := 0) (i0 := 0) (j := 0) (dK D_Mo_pageOf 0 rfl) rfl rfl ?_
  refine vg_iconst (pc := 1) (dK D_Mo_pageOf 1 rfl) ?_
  refine nmE h (fun S1 e_S1 h => ?_)
  refine vg_putI (pc := 2) (ci := 11) (f := 4) (z := 0) (dK D_Mo_pageOf 2 rfl) q_1446 hc0 (ltK rfl) (ltK rfl) rfl rfl e_S1 ?_
  refine g_aloadn (pc := 5) (i0 := 0) (j := 0) (dK D_Mo_pageOf 3 rfl) rfl rfl ?_
  refine g_aloadn (pc := 6) (i0 := 0) (j := 0) (dK D_Mo_pageOf 4 rfl) rfl rfl ?_
  refine g_iloadn (pc := 7) (i0 := 1) (j := 1) (dK D_Mo_pageOf 5 rfl) rfl rfl ?_
  refine bnE h (fun p2 e_p2 h => ?_)
  refine vg_cV (pc := 8) (As := [V a1]) (rest := [.ref c0]) (mc' := 0) (ms' := 0) (dK D_Mo_pageOf 6 rfl) K_Mo_199 (fitK rfl) (ltK rfl) hc0 rfl (leK rfl) (leK rfl) (leK rfl) (tf_Mo_isForm hc0 ha1 e_p2) (kcB ?_)
  refine vg_ifB_ne (pc := 11) (b := p2) (t := 18) (dK D_Mo_pageOf 7 rfl) rfl (fun hc3 => ?_) (fun hc3 => ?_)
  · replace h := ifP h hc3
    refine vg_iconst (pc := 18) (dK D_Mo_pageOf 10 rfl) ?_
    refine vg_iconst (pc := 19) (dK D_Mo_pageOf 11 rfl) ?_
    refine bnE h (fun p4 e_p4 h => ?_)
    refine vg_cV (pc := 20) (As := [V 0, V 1]) (rest := []) (mc' := 0) (ms' := 0) (dK D_Mo_pageOf 12 rfl) K_Mo_125 (fitK rfl) (ltK rfl) hc0 rfl (leK rfl) (leK rfl) (leK rfl) (tf_Mo_throwsIf hc0 (inRk rfl) (inRk rfl) e_p4) (kcB ?_)
    refine vg_ifB_eq (pc := 23) (b := p4.1) (t := 28) (dK D_Mo_pageOf 13 rfl) rfl (fun hc5 => ?_) (fun hc5 => ?_)
    · replace h := ifP h hc5
      refine vg_iconst (pc := 26) (dK D_Mo_pageOf 14 rfl) ?_
      exact vg_iretI (pc := 27) (r := 0) (dK D_Mo_pageOf 15 rfl) rfl (leK rfl) (leK rfl) (fun _ => rfl) (by obtain rfl := Option.some.inj h; exact ⟨rfl, (inRk rfl), rfl⟩)
    · replace h := ifN h hc5
      refine g_iloadn (pc := 28) (i0 := 2) (j := 2) (dK D_Mo_pageOf 16 rfl) rfl rfl ?_
      refine g_istoren (pc := 29) (i0 := 3) (ls2 := [(3, V a2), (0, .ref c0), (1, V a1), (2, V a2)]) (dK D_Mo_pageOf 17 rfl) rfl (ltK rfl) rfl ?_
      refine vg_iconst (pc := 30) (dK D_Mo_pageOf 18 rfl) ?_
      refine g_istore (pc := 31) (ls2 := [(4, V 1), (3, V a2), (0, .ref c0), (1, V a1), (2, V a2)]) (dK D_Mo_pageOf 19 rfl) (ltK rfl) rfl ?_
      refine bnSE h (fun p15 e_p15 h => ?_) (fun p14 e_p14 h => ?_)
      · refine gL_weak (ls' := [(0, .ref c0), (1, V a1), (3, V a2), (4, V 1)]) (sbc 2 rfl (sbc 3 rfl (sbc 1 rfl (sbc 0 rfl sbn)))) ?_
        refine tl_Mo_pageOf_33 hc0 ha1 (fun _ e => slr e) (fun p e hr_p15 => ?_) FU (a2, 1) e_p15 ha2 (inRk rfl)
        have e := Sum.inl.inj e
        subst e
        exact (by obtain rfl := Option.some.inj h; exact ⟨rfl, hr_p15, rfl⟩)
      · refine gL_weak (ls' := [(0, .ref c0), (1, V a1), (3, V a2), (4, V 1)]) (sbc 2 rfl (sbc 3 rfl (sbc 1 rfl (sbc 0 rfl sbn)))) ?_
        refine tl_Mo_pageOf_33 hc0 ha1 (fun p e => ?_) (fun _ e => srl e) FU (a2, 1) e_p14 ha2 (inRk rfl)
        have e := Sum.inr.inj e
        subst e
        refine vg_iconst (pc := 71) (dK D_Mo_pageOf 37 rfl) ?_
        exact vg_iretI (pc := 72) (r := (-1)) (dK D_Mo_pageOf 38 rfl) rfl (leK rfl) (leK rfl) (fun _ => rfl) (by obtain rfl := Option.some.inj h; exact ⟨rfl, (inRk rfl), rfl⟩)
  · replace h := ifN h hc3
    refine vg_iconst (pc := 14) (dK D_Mo_pageOf 8 rfl) ?_
    refine g_goto (pc := 15) (tgt := 19) (dK D_Mo_pageOf 9 rfl) rfl ?_
    refine vg_iconst (pc := 19) (dK D_Mo_pageOf 11 rfl) ?_
    refine bnE h (fun p16 e_p16 h => ?_)
    refine vg_cV (pc := 20) (As := [V 1, V 1]) (rest := []) (mc' := 0) (ms' := 0) (dK D_Mo_pageOf 12 rfl) K_Mo_125 (fitK rfl) (ltK rfl) hc0 rfl (leK rfl) (leK rfl) (leK rfl) (tf_Mo_throwsIf hc0 (inRk rfl) (inRk rfl) e_p16) (kcB ?_)
    refine vg_ifB_eq (pc := 23) (b := p16.1) (t := 28) (dK D_Mo_pageOf 13 rfl) rfl (fun hc17 => ?_) (fun hc17 => ?_)
    · replace h := ifP h hc17
      refine vg_iconst (pc := 26) (dK D_Mo_pageOf 14 rfl) ?_
      exact vg_iretI (pc := 27) (r := 0) (dK D_Mo_pageOf 15 rfl) rfl (leK rfl) (leK rfl) (fun _ => rfl) (by obtain rfl := Option.some.inj h; exact ⟨rfl, (inRk rfl), rfl⟩)
    · replace h := ifN h hc17
      refine g_iloadn (pc := 28) (i0 := 2) (j := 2) (dK D_Mo_pageOf 16 rfl) rfl rfl ?_
      refine g_istoren (pc := 29) (i0 := 3) (ls2 := [(3, V a2), (0, .ref c0), (1, V a1), (2, V a2)]) (dK D_Mo_pageOf 17 rfl) rfl (ltK rfl) rfl ?_
      refine vg_iconst (pc := 30) (dK D_Mo_pageOf 18 rfl) ?_
      refine g_istore (pc := 31) (ls2 := [(4, V 1), (3, V a2), (0, .ref c0), (1, V a1), (2, V a2)]) (dK D_Mo_pageOf 19 rfl) (ltK rfl) rfl ?_
      refine bnSE h (fun p19 e_p19 h => ?_) (fun p18 e_p18 h => ?_)
      · refine gL_weak (ls' := [(0, .ref c0), (1, V a1), (3, V a2), (4, V 1)]) (sbc 2 rfl (sbc 3 rfl (sbc 1 rfl (sbc 0 rfl sbn)))) ?_
        refine tl_Mo_pageOf_33 hc0 ha1 (fun _ e => slr e) (fun p e hr_p19 => ?_) FU (a2, 1) e_p19 ha2 (inRk rfl)
        have e := Sum.inl.inj e
        subst e
        exact (by obtain rfl := Option.some.inj h; exact ⟨rfl, hr_p19, rfl⟩)
      · refine gL_weak (ls' := [(0, .ref c0), (1, V a1), (3, V a2), (4, V 1)]) (sbc 2 rfl (sbc 3 rfl (sbc 1 rfl (sbc 0 rfl sbn)))) ?_
        refine tl_Mo_pageOf_33 hc0 ha1 (fun p e => ?_) (fun _ e => srl e) FU (a2, 1) e_p18 ha2 (inRk rfl)
        have e := Sum.inr.inj e
        subst e
        refine vg_iconst (pc := 71) (dK D_Mo_pageOf 37 rfl) ?_
        exact vg_iretI (pc := 72) (r := (-1)) (dK D_Mo_pageOf 38 rfl) rfl (leK rfl) (leK rfl) (fun _ => rfl) (by obtain rfl := Option.some.inj h; exact ⟨rfl, (inRk rfl), rfl⟩)
def jf_Mo_put_19 (c0 : Nat) (a1 : Int) (a2 : Int) (t0 : Int) (d1 : Nat) (S : St) : Option (Int × St) := bnO (fn_Mo_throwsIf d1 t0 1 S) fun p4 => if p4.1 = true then (some (0, p4.2)) else (bnO (fn_Mo_reasonOf c0 a1 a2 p4.2) fun p6 => if p6 = 1 then (if p6 ≤ 0 then (bnO (fn_Mo_record c0 p4.2) fun p7 => bnO (fn_Mo_setOfAd c0 a1 6 a2 p7) fun p8 => some (0, p8)) else (some (p6, p4.2))) else (bnO (fn_Mo_ofAd c0 a1 6 p4.2) fun p10 => if p10 ≤ 0 then (if p6 ≤ 0 then (bnO (fn_Mo_record c0 p4.2) fun p11 => bnO (fn_Mo_setOfAd c0 a1 6 a2 p11) fun p12 => some (0, p12)) else (some (p6, p4.2))) else (bnO (fn_Mo_ofAd c0 a1 6 p4.2) fun p14 => bnO (fn_Mo_isPrinted c0 p14 p4.2) fun p15 => if p15 = true then (some (2, p4.2)) else (if p6 ≤ 0 then (bnO (fn_Mo_record c0 p4.2) fun p17 => bnO (fn_Mo_setOfAd c0 a1 6 a2 p17) fun p18 => some (0, p18)) else (some (p6, p4.2))))))
theorem tj_Mo_put_19 {E : EV} {X : XT} {c0 : Nat} (hc0 : HC X 11 c0) {a1 : Int} (ha1 : inR a1) {a2 : Int} (ha2 : inR a2) {t0 : Int} (ht0 : inR t0) {d1 : Nat} (hd1 : HC X 11 d1) {S : St} {q : Int × St} (h : jf_Mo_put_19 c0 a1 a2 t0 d1 S = some q) : Go E M_Mo_put 0 0 19 [(0, .ref c0), (1, V a1), (2, V a2)] [V t0, .ref d1] (WX X S) 0 0 (KI X q.1 q.2) := by
  unfold jf_Mo_put_19 at h
  refine vg_iconst (pc := 19) (dK D_Mo_put_0 11 rfl) ?_
  refine bnE h (fun p4 e_p4 h => ?_)
  refine vg_cV (pc := 20) (As := [V t0, V 1]) (rest := []) (mc' := 0) (ms' := 0) (dK D_Mo_put_0 12 rfl) K_Mo_125 (fitK rfl) (ltK rfl) hd1 rfl (leK rfl) (leK rfl) (leK rfl) (tf_Mo_throwsIf hd1 ht0 (inRk rfl) e_p4) (kcB ?_)
  refine vg_ifB_eq (pc := 23) (b := p4.1) (t := 28) (dK D_Mo_put_0 13 rfl) rfl (fun hc5 => ?_) (fun hc5 => ?_)
  · replace h := ifP h hc5
    refine vg_iconst (pc := 26) (dK D_Mo_put_0 14 rfl) ?_
    exact vg_iretI (pc := 27) (r := 0) (dK D_Mo_put_0 15 rfl) rfl (leK rfl) (leK rfl) (fun _ => rfl) (by obtain rfl := Option.some.inj h; exact ⟨rfl, (inRk rfl), rfl⟩)
  · replace h := ifN h hc5
    refine g_aloadn (pc := 28) (i0 := 0) (j := 0) (dK D_Mo_put_0 16 rfl) rfl rfl ?_
    refine g_iloadn (pc := 29) (i0 := 1) (j := 1) (dK D_Mo_put_0 17 rfl) rfl rfl ?_
    refine g_iloadn (pc := 30) (i0 := 2) (j := 2) (dK D_Mo_put_0 18 rfl) rfl rfl ?_
    refine bnE h (fun p6 e_p6 h => ?_)
    refine vg_cV (pc := 31) (As := [V a1, V a2]) (rest := []) (mc' := 0) (ms' := 0) (dK D_Mo_put_0 19 rfl) K_Mo_129 (fitK rfl) (ltK rfl) hc0 rfl (leK rfl) (leK rfl) (leK rfl) (tf_Mo_reasonOf hc0 ha1 ha2 e_p6) (kcI (fun h_p6 => ?_))
    refine g_istoren (pc := 34) (i0 := 3) (ls2 := [(3, V p6), (0, .ref c0), (1, V a1), (2, V a2)]) (dK D_Mo_put_0 20 rfl) rfl (ltK rfl) rfl ?_
    refine g_iloadn (pc := 35) (i0 := 3) (j := 0) (dK D_Mo_put_0 21 rfl) rfl rfl ?_
    refine vg_iconst (pc := 36) (dK D_Mo_put_0 22 rfl) ?_
    refine vg_icmp_eq (pc := 37) (t := 66) (dK D_Mo_put_0 23 rfl) rfl h_p6 (inRk rfl) (fun hc21 => ?_) (fun hc21 => ?_)
    · replace h := ifP h hc21
      refine g_iloadn (pc := 66) (i0 := 3) (j := 0) (dK D_Mo_put_0 38 rfl) rfl rfl ?_
      refine vg_if_le (pc := 67) (t := 72) (dK D_Mo_put_0 39 rfl) rfl h_p6 (fun hc9 => ?_) (fun hc9 => ?_)
      · replace h := ifP h hc9
        refine g_aloadn (pc := 72) (i0 := 0) (j := 1) (dK D_Mo_put_0 42 rfl) rfl rfl ?_
        refine bnE h (fun p7 e_p7 h => ?_)
        refine vg_cV (pc := 73) (As := []) (rest := []) (mc' := 0) (ms' := 0) (dK D_Mo_put_0 43 rfl) K_Mo_159 (fitK rfl) (ltK rfl) hc0 rfl (leK rfl) (leK rfl) (leK rfl) (tf_Mo_record hc0 e_p7) (kcU ?_)
        refine g_aloadn (pc := 76) (i0 := 0) (j := 1) (dK D_Mo_put_0 44 rfl) rfl rfl ?_
        refine g_iloadn (pc := 77) (i0 := 1) (j := 2) (dK D_Mo_put_0 45 rfl) rfl rfl ?_
        refine vg_bipush (pc := 78) (dK D_Mo_put_0 46 rfl) rfl ?_
        refine g_iloadn (pc := 80) (i0 := 2) (j := 3) (dK D_Mo_put_0 47 rfl) rfl rfl ?_
        refine bnE h (fun p8 e_p8 h => ?_)
        refine vg_cV (pc := 81) (As := [V a1, V 6, V a2]) (rest := []) (mc' := 0) (ms' := 0) (dK D_Mo_put_0 48 rfl) K_Mo_162 (fitK rfl) (ltK rfl) hc0 rfl (leK rfl) (leK rfl) (leK rfl) (tf_Mo_setOfAd hc0 ha1 (inRk rfl) ha2 e_p8) (kcU ?_)
        refine vg_iconst (pc := 84) (dK D_Mo_put_0 49 rfl) ?_
        exact vg_iretI (pc := 85) (r := 0) (dK D_Mo_put_1 0 rfl) rfl (leK rfl) (leK rfl) (fun _ => rfl) (by obtain rfl := Option.some.inj h; exact ⟨rfl, (inRk rfl), rfl⟩)
      · replace h := ifN h hc9
        refine g_iloadn (pc := 70) (i0 := 3) (j := 0) (dK D_Mo_put_0 40 rfl) rfl rfl ?_
        exact vg_iretI (pc := 71) (r := p6) (dK D_Mo_put_0 41 rfl) rfl (leK rfl) (leK rfl) (fun _ => rfl) (by obtain rfl := Option.some.inj h; exact ⟨rfl, h_p6, rfl⟩)
    · replace h := ifN h hc21
      refine g_aloadn (pc := 40) (i0 := 0) (j := 1) (dK D_Mo_put_0 24 rfl) rfl rfl ?_
      refine g_iloadn (pc := 41) (i0 := 1) (j := 2) (dK D_Mo_put_0 25 rfl) rfl rfl ?_
      refine vg_bipush (pc := 42) (dK D_Mo_put_0 26 rfl) rfl ?_
      refine bnE h (fun p10 e_p10 h => ?_)
      refine vg_cV (pc := 44) (As := [V a1, V 6]) (rest := []) (mc' := 0) (ms' := 0) (dK D_Mo_put_0 27 rfl) K_Mo_82 (fitK rfl) (ltK rfl) hc0 rfl (leK rfl) (leK rfl) (leK rfl) (tf_Mo_ofAd hc0 ha1 (inRk rfl) e_p10) (kcI (fun h_p10 => ?_))
      refine vg_if_le (pc := 47) (t := 66) (dK D_Mo_put_0 28 rfl) rfl h_p10 (fun hc20 => ?_) (fun hc20 => ?_)
      · replace h := ifP h hc20
        refine g_iloadn (pc := 66) (i0 := 3) (j := 0) (dK D_Mo_put_0 38 rfl) rfl rfl ?_
        refine vg_if_le (pc := 67) (t := 72) (dK D_Mo_put_0 39 rfl) rfl h_p6 (fun hc13 => ?_) (fun hc13 => ?_)
        · replace h := ifP h hc13
          refine g_aloadn (pc := 72) (i0 := 0) (j := 1) (dK D_Mo_put_0 42 rfl) rfl rfl ?_
          refine bnE h (fun p11 e_p11 h => ?_)
          refine vg_cV (pc := 73) (As := []) (rest := []) (mc' := 0) (ms' := 0) (dK D_Mo_put_0 43 rfl) K_Mo_159 (fitK rfl) (ltK rfl) hc0 rfl (leK rfl) (leK rfl) (leK rfl) (tf_Mo_record hc0 e_p11) (kcU ?_)
          refine g_aloadn (pc := 76) (i0 := 0) (j := 1) (dK D_Mo_put_0 44 rfl) rfl rfl ?_
          refine g_iloadn (pc := 77) (i0 := 1) (j := 2) (dK D_Mo_put_0 45 rfl) rfl rfl ?_
          refine vg_bipush (pc := 78) (dK D_Mo_put_0 46 rfl) rfl ?_
          refine g_iloadn (pc := 80) (i0 := 2) (j := 3) (dK D_Mo_put_0 47 rfl) rfl rfl ?_
          refine bnE h (fun p12 e_p12 h => ?_)
          refine vg_cV (pc := 81) (As := [V a1, V 6, V a2]) (rest := []) (mc' := 0) (ms' := 0) (dK D_Mo_put_0 48 rfl) K_Mo_162 (fitK rfl) (ltK rfl) hc0 rfl (leK rfl) (leK rfl) (leK rfl) (tf_Mo_setOfAd hc0 ha1 (inRk rfl) ha2 e_p12) (kcU ?_)
          refine vg_iconst (pc := 84) (dK D_Mo_put_0 49 rfl) ?_
          exact vg_iretI (pc := 85) (r := 0) (dK D_Mo_put_1 0 rfl) rfl (leK rfl) (leK rfl) (fun _ => rfl) (by obtain rfl := Option.some.inj h; exact ⟨rfl, (inRk rfl), rfl⟩)
        · replace h := ifN h hc13
          refine g_iloadn (pc := 70) (i0 := 3) (j := 0) (dK D_Mo_put_0 40 rfl) rfl rfl ?_
          exact vg_iretI (pc := 71) (r := p6) (dK D_Mo_put_0 41 rfl) rfl (leK rfl) (leK rfl) (fun _ => rfl) (by obtain rfl := Option.some.inj h; exact ⟨rfl, h_p6, rfl⟩)
      · replace h := ifN h hc20
        refine g_aloadn (pc := 50) (i0 := 0) (j := 1) (dK D_Mo_put_0 29 rfl) rfl rfl ?_
        refine g_aloadn (pc := 51) (i0 := 0) (j := 1) (dK D_Mo_put_0 30 rfl) rfl rfl ?_
        refine g_iloadn (pc := 52) (i0 := 1) (j := 2) (dK D_Mo_put_0 31 rfl) rfl rfl ?_
        refine vg_bipush (pc := 53) (dK D_Mo_put_0 32 rfl) rfl ?_
        refine bnE h (fun p14 e_p14 h => ?_)
        refine vg_cV (pc := 55) (As := [V a1, V 6]) (rest := [.ref c0]) (mc' := 0) (ms' := 0) (dK D_Mo_put_0 33 rfl) K_Mo_82 (fitK rfl) (ltK rfl) hc0 rfl (leK rfl) (leK rfl) (leK rfl) (tf_Mo_ofAd hc0 ha1 (inRk rfl) e_p14) (kcI (fun h_p14 => ?_))
        refine bnE h (fun p15 e_p15 h => ?_)
        refine vg_cV (pc := 58) (As := [V p14]) (rest := []) (mc' := 0) (ms' := 0) (dK D_Mo_put_0 34 rfl) K_Mo_109 (fitK rfl) (ltK rfl) hc0 rfl (leK rfl) (leK rfl) (leK rfl) (tf_Mo_isPrinted hc0 h_p14 e_p15) (kcB ?_)
        refine vg_ifB_eq (pc := 61) (b := p15) (t := 66) (dK D_Mo_put_0 35 rfl) rfl (fun hc16 => ?_) (fun hc16 => ?_)
        · replace h := ifP h hc16
          refine vg_iconst (pc := 64) (dK D_Mo_put_0 36 rfl) ?_
          refine g_istoren (pc := 65) (i0 := 3) (ls2 := [(3, V 2), (0, .ref c0), (1, V a1), (2, V a2)]) (dK D_Mo_put_0 37 rfl) rfl (ltK rfl) rfl ?_
          refine g_iloadn (pc := 66) (i0 := 3) (j := 0) (dK D_Mo_put_0 38 rfl) rfl rfl ?_
          refine vg_if_le (pc := 67) (t := 72) (dK D_Mo_put_0 39 rfl) rfl (inRk rfl) (fun hc => absurd hc (by decide)) (fun _ => ?_)
          refine g_iloadn (pc := 70) (i0 := 3) (j := 0) (dK D_Mo_put_0 40 rfl) rfl rfl ?_
          exact vg_iretI (pc := 71) (r := 2) (dK D_Mo_put_0 41 rfl) rfl (leK rfl) (leK rfl) (fun _ => rfl) (by obtain rfl := Option.some.inj h; exact ⟨rfl, (inRk rfl), rfl⟩)
        · replace h := ifN h hc16
          refine g_iloadn (pc := 66) (i0 := 3) (j := 0) (dK D_Mo_put_0 38 rfl) rfl rfl ?_
          refine vg_if_le (pc := 67) (t := 72) (dK D_Mo_put_0 39 rfl) rfl h_p6 (fun hc19 => ?_) (fun hc19 => ?_)
          · replace h := ifP h hc19
            refine g_aloadn (pc := 72) (i0 := 0) (j := 1) (dK D_Mo_put_0 42 rfl) rfl rfl ?_
            refine bnE h (fun p17 e_p17 h => ?_)
            refine vg_cV (pc := 73) (As := []) (rest := []) (mc' := 0) (ms' := 0) (dK D_Mo_put_0 43 rfl) K_Mo_159 (fitK rfl) (ltK rfl) hc0 rfl (leK rfl) (leK rfl) (leK rfl) (tf_Mo_record hc0 e_p17) (kcU ?_)
            refine g_aloadn (pc := 76) (i0 := 0) (j := 1) (dK D_Mo_put_0 44 rfl) rfl rfl ?_
            refine g_iloadn (pc := 77) (i0 := 1) (j := 2) (dK D_Mo_put_0 45 rfl) rfl rfl ?_
            refine vg_bipush (pc := 78) (dK D_Mo_put_0 46 rfl) rfl ?_
            refine g_iloadn (pc := 80) (i0 := 2) (j := 3) (dK D_Mo_put_0 47 rfl) rfl rfl ?_
            refine bnE h (fun p18 e_p18 h => ?_)
            refine vg_cV (pc := 81) (As := [V a1, V 6, V a2]) (rest := []) (mc' := 0) (ms' := 0) (dK D_Mo_put_0 48 rfl) K_Mo_162 (fitK rfl) (ltK rfl) hc0 rfl (leK rfl) (leK rfl) (leK rfl) (tf_Mo_setOfAd hc0 ha1 (inRk rfl) ha2 e_p18) (kcU ?_)
            refine vg_iconst (pc := 84) (dK D_Mo_put_0 49 rfl) ?_
            exact vg_iretI (pc := 85) (r := 0) (dK D_Mo_put_1 0 rfl) rfl (leK rfl) (leK rfl) (fun _ => rfl) (by obtain rfl := Option.some.inj h; exact ⟨rfl, (inRk rfl), rfl⟩)
          · replace h := ifN h hc19
            refine g_iloadn (pc := 70) (i0 := 3) (j := 0) (dK D_Mo_put_0 40 rfl) rfl rfl ?_
            exact vg_iretI (pc := 71) (r := p6) (dK D_Mo_put_0 41 rfl) rfl (leK rfl) (leK rfl) (fun _ => rfl) (by obtain rfl := Option.some.inj h; exact ⟨rfl, h_p6, rfl⟩)
def fn_Mo_put (c0 : Nat) (a1 : Int) (a2 : Int) (S : St) : Option (Int × St) := nm (u S c0 4 0) fun S1 => bnO (fn_Mo_isAd c0 a1 S1) fun p2 => if p2 = true then (jf_Mo_put_19 c0 a1 a2 0 c0 S1) else (jf_Mo_put_19 c0 a1 a2 1 c0 S1)
theorem tf_Mo_put {E : EV} {X : XT} {c0 : Nat} (hc0 : HC X 11 c0) {a1 : Int} (ha1 : inR a1) {a2 : Int} (ha2 : inR a2) {S : St} {q : Int × St} (h : fn_Mo_put c0 a1 a2 S = some q) : Ev E M_Mo_put [.ref c0, V a1, V a2] (WX X S) 0 0 (KI X q.1 q.2) := by
  refine Ev.of pn_Mo rfl (leK rfl) ?_
  show Go E M_Mo_put 0 0 0 [(0, .ref c0), (1, V a1), (2, V a2)] [] (WX X S) 0 0 (KI X q.1 q.2)
  unfold fn_Mo_put at h
  refine g_aloadn (pc := 0) (i0 := 0) (j := 0) (dK D_Mo_put_0 0 rfl) rfl rfl ?_
  refine vg_iconst (pc := 1) (dK D_Mo_put_0 1 rfl) ?_
  refine nmE h (fun S1 e_S1 h => ?_)
  refine vg_putI (pc := 2) (ci := 11) (f := 4) (z := 0) (dK D_Mo_put_0 2 rfl) q_1446 hc0 (ltK rfl) (ltK rfl) rfl rfl e_S1 ?_
  refine g_aloadn (pc := 5) (i0 := 0) (j := 0) (dK D_Mo_put_0 3 rfl) rfl rfl ?_
  refine g_aloadn (pc := 6) (i0 := 0) (j := 0) (dK D_Mo_put_0 4 rfl) rfl rfl ?_
  refine g_iloadn (pc := 7) (i0 := 1) (j := 1) (dK D_Mo_put_0 5 rfl) rfl rfl ?_
  refine bnE h (fun p2 e_p2 h => ?_)
  refine vg_cV (pc := 8) (As := [V a1]) (rest := [.ref c0]) (mc' := 0) (ms' := 0) (dK D_Mo_put_0 6 rfl) K_Mo_122 (fitK rfl) (ltK rfl) hc0 rfl (leK rfl) (leK rfl) (leK rfl) (tf_Mo_isAd hc0 ha1 e_p2) (kcB ?_)
  refine vg_ifB_ne (pc := 11) (b := p2) (t := 18) (dK D_Mo_put_0 7 rfl) rfl (fun hc3 => ?_) (fun hc3 => ?_)
  · replace h := ifP h hc3
    refine vg_iconst (pc := 18) (dK D_Mo_put_0 10 rfl) ?_
    exact tj_Mo_put_19 hc0 ha1 ha2 (inRk rfl) hc0 h
  · replace h := ifN h hc3
    refine vg_iconst (pc := 14) (dK D_Mo_put_0 8 rfl) ?_
    refine g_goto (pc := 15) (tgt := 19) (dK D_Mo_put_0 9 rfl) rfl ?_
    exact tj_Mo_put_19 hc0 ha1 ha2 (inRk rfl) hc0 h
def lb_Mo_isStoryPrinted_4 (c0 : Nat) (a1 : Int) (S : St) (go : Int × Int → Option (Int)) (a2 : Int) (a3 : Int) : Option (Int) := bnO (fn_Mo_pageMany c0 S) fun p1 => if p1 < a3 then (some a2) else (bnO (fn_Mo_covers c0 a1 a3 S) fun p2 => if p2 = true then (bnO (fn_Mo_isPrinted c0 a3 S) fun p5 => if p5 = true then (nm (wr (a3 + 1)) fun v8 => go ((i_or a2 1), v8)) else (nm (wr (a3 + 1)) fun v7 => go ((i_or a2 0), v7))) else (nm (wr (a3 + 1)) fun v4 => go ((i_or a2 0), v4)))
def lo_Mo_isStoryPrinted_4 (c0 : Nat) (a1 : Int) (S : St) : Nat → Int × Int → Option (Int) := lp fun go p => lb_Mo_isStoryPrinted_4 c0 a1 S go p.1 p.2
theorem tl_Mo_isStoryPrinted_4 {E : EV} {X : XT} {c0 : Nat} (hc0 : HC X 11 c0) {a1 : Int} (ha1 : inR a1) {S : St} {K : RK → PS → Prop} {q : Int} (hx : inR q → Go E M_Mo_isStoryPrinted 0 0 43 [(2, V q)] [] (WX X S) 0 0 K) : ∀ n a, lo_Mo_isStoryPrinted_4 c0 a1 S n a = some q → inR a.1 → inR a.2 → Go E M_Mo_isStoryPrinted 0 0 4 [(0, .ref c0), (1, V a1), (2, V a.1), (3, V a.2)] [] (WX X S) 0 0 K := by
  refine lp_ind (P := fun a : Int × Int => inR a.1 → inR a.2 → Go E M_Mo_isStoryPrinted 0 0 4 [(0, .ref c0), (1, V a1), (2, V a.1), (3, V a.2)] [] (WX X S) 0 0 K) (fun go ih a h => ?_)
  obtain ⟨a2, a3⟩ := a
  intro ha2 ha3
  show Go E M_Mo_isStoryPrinted 0 0 4 [(0, .ref c0), (1, V a1), (2, V a2), (3, V a3)] [] (WX X S) 0 0 K
  replace h : lb_Mo_isStoryPrinted_4 c0 a1 S go a2 a3 = some q := h
  unfold lb_Mo_isStoryPrinted_4 at h
  refine g_iloadn (pc := 4) (i0 := 3) (j := 3) (dK D_Mo_isStoryPrinted 4 rfl) rfl rfl ?_
  refine g_aloadn (pc := 5) (i0 := 0) (j := 0) (dK D_Mo_isStoryPrinted 5 rfl) rfl rfl ?_
  refine bnE h (fun p1 e_p1 h => ?_)
  refine vg_cV (pc := 6) (As := []) (rest := [V a3]) (mc' := 0) (ms' := 0) (dK D_Mo_isStoryPrinted 6 rfl) K_Mo_63 (fitK rfl) (ltK rfl) hc0 rfl (leK rfl) (leK rfl) (leK rfl) (tf_Mo_pageMany hc0 e_p1) (kcI (fun h_p1 => ?_))
  refine vg_icmp_gt (pc := 9) (t := 43) (dK D_Mo_isStoryPrinted 7 rfl) rfl ha3 h_p1 (fun hc9 => ?_) (fun hc9 => ?_)
  · replace h := ifP h hc9
    obtain rfl := Option.some.inj h
    refine gL_weak (ls' := [(2, V a2)]) (sbc 2 rfl sbn) ?_
    exact hx ha2
  · replace h := ifN h hc9
    refine g_iloadn (pc := 12) (i0 := 2) (j := 2) (dK D_Mo_isStoryPrinted 8 rfl) rfl rfl ?_
    refine g_aloadn (pc := 13) (i0 := 0) (j := 0) (dK D_Mo_isStoryPrinted 9 rfl) rfl rfl ?_
    refine g_iloadn (pc := 14) (i0 := 1) (j := 1) (dK D_Mo_isStoryPrinted 10 rfl) rfl rfl ?_
    refine g_iloadn (pc := 15) (i0 := 3) (j := 3) (dK D_Mo_isStoryPrinted 11 rfl) rfl rfl ?_
    refine bnE h (fun p2 e_p2 h => ?_)
    refine vg_cV (pc := 16) (As := [V a1, V a3]) (rest := [V a2]) (mc' := 0) (ms' := 0) (dK D_Mo_isStoryPrinted 12 rfl) K_Mo_88 (fitK rfl) (ltK rfl) hc0 rfl (leK rfl) (leK rfl) (leK rfl) (tf_Mo_covers hc0 ha1 ha3 e_p2) (kcB ?_)
    refine vg_ifB_eq (pc := 19) (b := p2) (t := 34) (dK D_Mo_isStoryPrinted 13 rfl) rfl (fun hc3 => ?_) (fun hc3 => ?_)
    · replace h := ifP h hc3
      refine g_aloadn (pc := 22) (i0 := 0) (j := 0) (dK D_Mo_isStoryPrinted 14 rfl) rfl rfl ?_
      refine g_iloadn (pc := 23) (i0 := 3) (j := 3) (dK D_Mo_isStoryPrinted 15 rfl) rfl rfl ?_
      refine bnE h (fun p5 e_p5 h => ?_)
      refine vg_cV (pc := 24) (As := [V a3]) (rest := [V a2]) (mc' := 0) (ms' := 0) (dK D_Mo_isStoryPrinted 16 rfl) K_Mo_109 (fitK rfl) (ltK rfl) hc0 rfl (leK rfl) (leK rfl) (leK rfl) (tf_Mo_isPrinted hc0 ha3 e_p5) (kcB ?_)
      refine vg_ifB_eq (pc := 27) (b := p5) (t := 34) (dK D_Mo_isStoryPrinted 17 rfl) rfl (fun hc6 => ?_) (fun hc6 => ?_)
      · replace h := ifP h hc6
        refine vg_iconst (pc := 30) (dK D_Mo_isStoryPrinted 18 rfl) ?_
        refine g_goto (pc := 31) (tgt := 35) (dK D_Mo_isStoryPrinted 19 rfl) rfl ?_
        refine vg_ior (pc := 35) (dK D_Mo_isStoryPrinted 21 rfl) ?_
        refine g_istoren (pc := 36) (i0 := 2) (ls2 := [(2, V (i_or a2 1)), (0, .ref c0), (1, V a1), (3, V a3)]) (dK D_Mo_isStoryPrinted 22 rfl) rfl (ltK rfl) rfl ?_
        refine nmE h (fun v8 e_v8 h => ?_)
        refine vg_iinc (pc := 37) (j := 3) (a := a3) (z := 1) (ls2 := [(3, V v8), (2, V (i_or a2 1)), (0, .ref c0), (1, V a1)]) (dK D_Mo_isStoryPrinted 23 rfl) rfl e_v8 (ltK rfl) rfl ?_
        refine g_goto (pc := 40) (tgt := 4) (dK D_Mo_isStoryPrinted 24 rfl) rfl ?_
        refine gL_weak (ls' := [(0, .ref c0), (1, V a1), (2, V (i_or a2 1)), (3, V v8)]) (sbc 2 rfl (sbc 3 rfl (sbc 1 rfl (sbc 0 rfl sbn)))) ?_
        replace h := ih _ h
        exact h (toInt_in _) (Vn_in e_v8)
      · replace h := ifN h hc6
        refine vg_iconst (pc := 34) (dK D_Mo_isStoryPrinted 20 rfl) ?_
        refine vg_ior (pc := 35) (dK D_Mo_isStoryPrinted 21 rfl) ?_
        refine g_istoren (pc := 36) (i0 := 2) (ls2 := [(2, V (i_or a2 0)), (0, .ref c0), (1, V a1), (3, V a3)]) (dK D_Mo_isStoryPrinted 22 rfl) rfl (ltK rfl) rfl ?_
        refine nmE h (fun v7 e_v7 h => ?_)
        refine vg_iinc (pc := 37) (j := 3) (a := a3) (z := 1) (ls2 := [(3, V v7), (2, V (i_or a2 0)), (0, .ref c0), (1, V a1)]) (dK D_Mo_isStoryPrinted 23 rfl) rfl e_v7 (ltK rfl) rfl ?_
        refine g_goto (pc := 40) (tgt := 4) (dK D_Mo_isStoryPrinted 24 rfl) rfl ?_
        refine gL_weak (ls' := [(0, .ref c0), (1, V a1), (2, V (i_or a2 0)), (3, V v7)]) (sbc 2 rfl (sbc 3 rfl (sbc 1 rfl (sbc 0 rfl sbn)))) ?_
        replace h := ih _ h
        exact h (toInt_in _) (Vn_in e_v7)
    · replace h := ifN h hc3
      refine vg_iconst (pc := 34) (dK D_Mo_isStoryPrinted 20 rfl) ?_
      refine vg_ior (pc := 35) (dK D_Mo_isStoryPrinted 21 rfl) ?_
      refine g_istoren (pc := 36) (i0 := 2) (ls2 := [(2, V (i_or a2 0)), (0, .ref c0), (1, V a1), (3, V a3)]) (dK D_Mo_isStoryPrinted 22 rfl) rfl (ltK rfl) rfl ?_
      refine nmE h (fun v4 e_v4 h => ?_)
      refine vg_iinc (pc := 37) (j := 3) (a := a3) (z := 1) (ls2 := [(3, V v4), (2, V (i_or a2 0)), (0, .ref c0), (1, V a1)]) (dK D_Mo_isStoryPrinted 23 rfl) rfl e_v4 (ltK rfl) rfl ?_
      refine g_goto (pc := 40) (tgt := 4) (dK D_Mo_isStoryPrinted 24 rfl) rfl ?_
      refine gL_weak (ls' := [(0, .ref c0), (1, V a1), (2, V (i_or a2 0)), (3, V v4)]) (sbc 2 rfl (sbc 3 rfl (sbc 1 rfl (sbc 0 rfl sbn)))) ?_
      replace h := ih _ h
      exact h (toInt_in _) (Vn_in e_v4)
def fn_Mo_isStoryPrinted (c0 : Nat) (a1 : Int) (S : St) : Option (Bool) := bnO (lo_Mo_isStoryPrinted_4 c0 a1 S FU (0, 1)) fun p10 => if p10 = 0 ∨ p10 = 1 then (some (decide (p10 = 1))) else none
theorem tf_Mo_isStoryPrinted {E : EV} {X : XT} {c0 : Nat} (hc0 : HC X 11 c0) {a1 : Int} (ha1 : inR a1) {S : St} {q : Bool} (h : fn_Mo_isStoryPrinted c0 a1 S = some q) : Ev E M_Mo_isStoryPrinted [.ref c0, V a1] (WX X S) 0 0 (KB X q S) := by
  refine Ev.of pn_Mo rfl (leK rfl) ?_
  show Go E M_Mo_isStoryPrinted 0 0 0 [(0, .ref c0), (1, V a1)] [] (WX X S) 0 0 (KB X q S)
  unfold fn_Mo_isStoryPrinted at h
  refine vg_iconst (pc := 0) (dK D_Mo_isStoryPrinted 0 rfl) ?_
  refine g_istoren (pc := 1) (i0 := 2) (ls2 := [(2, V 0), (0, .ref c0), (1, V a1)]) (dK D_Mo_isStoryPrinted 1 rfl) rfl (ltK rfl) rfl ?_
  refine vg_iconst (pc := 2) (dK D_Mo_isStoryPrinted 2 rfl) ?_
  refine g_istoren (pc := 3) (i0 := 3) (ls2 := [(3, V 1), (2, V 0), (0, .ref c0), (1, V a1)]) (dK D_Mo_isStoryPrinted 3 rfl) rfl (ltK rfl) rfl ?_
  refine bnE h (fun p10 e_p10 h => ?_)
  refine gL_weak (ls' := [(0, .ref c0), (1, V a1), (2, V 0), (3, V 1)]) (sbc 2 rfl (sbc 3 rfl (sbc 1 rfl (sbc 0 rfl sbn)))) ?_
  refine tl_Mo_isStoryPrinted_4 hc0 ha1 (fun hx2_p10 => ?_) FU (0, 1) e_p10 (inRk rfl) (inRk rfl)
  refine g_iloadn (pc := 43) (i0 := 2) (j := 0) (dK D_Mo_isStoryPrinted 25 rfl) rfl rfl ?_
  refine gdE h (fun hb11 h => ?_)
  refine gsk (st' := [V (bi (decide (p10 = 1)))]) (congrArg (fun z => [z]) (V_bi hb11).symm) ?_
  exact vg_iretB (pc := 44) (b := (decide (p10 = 1))) (dK D_Mo_isStoryPrinted 26 rfl) rfl (leK rfl) (leK rfl) (fun _ => rfl) (by obtain rfl := Option.some.inj h; exact ⟨rfl, rfl⟩)
def jf_Mo_lay_19 (c0 : Nat) (a1 : Int) (a2 : Int) (t0 : Int) (d1 : Nat) (S : St) : Option (Int × St) := bnO (fn_Mo_throwsIf d1 t0 1 S) fun p4 => if p4.1 = true then (some (0, p4.2)) else (bnO (fn_Mo_storyReasonOf c0 a1 a2 p4.2) fun p6 => if p6 = 1 then (if p6 ≤ 0 then (bnO (fn_Mo_record c0 p4.2) fun p7 => if 0 ≤ ((309 + (5 * a1)) + 4) ∧ ((309 + (5 * a1)) + 4) < 8740 then (nm (u p7 (tgt c0 0) ((((309 + (5 * a1)) + 4)).toNat) a2) fun S9 => some (0, S9)) else none) else (some (p6, p4.2))) else (bnO (fn_Mo_isStoryPrinted c0 a1 p4.2) fun p11 => if p11 = true then (some (2, p4.2)) else (if p6 ≤ 0 then (bnO (fn_Mo_record c0 p4.2) fun p13 => if 0 ≤ ((309 + (5 * a1)) + 4) ∧ ((309 + (5 * a1)) + 4) < 8740 then (nm (u p13 (tgt c0 0) ((((309 + (5 * a1)) + 4)).toNat) a2) fun S15 => some (0, S15)) else none) else (some (p6, p4.2)))))
theorem tj_Mo_lay_19 {E : EV} {X : XT} {c0 : Nat} (hc0 : HC X 11 c0) {a1 : Int} (ha1 : inR a1) {a2 : Int} (ha2 : inR a2) {t0 : Int} (ht0 : inR t0) {d1 : Nat} (hd1 : HC X 11 d1) {S : St} {q : Int × St} (h : jf_Mo_lay_19 c0 a1 a2 t0 d1 S = some q) : Go E M_Mo_lay 0 0 19 [(0, .ref c0), (1, V a1), (2, V a2)] [V t0, .ref d1] (WX X S) 0 0 (KI X q.1 q.2) := by
  unfold jf_Mo_lay_19 at h
  refine vg_iconst (pc := 19) (dK D_Mo_lay 11 rfl) ?_
  refine bnE h (fun p4 e_p4 h => ?_)
  refine vg_cV (pc := 20) (As := [V t0, V 1]) (rest := []) (mc' := 0) (ms' := 0) (dK D_Mo_lay 12 rfl) K_Mo_125 (fitK rfl) (ltK rfl) hd1 rfl (leK rfl) (leK rfl) (leK rfl) (tf_Mo_throwsIf hd1 ht0 (inRk rfl) e_p4) (kcB ?_)
  refine vg_ifB_eq (pc := 23) (b := p4.1) (t := 28) (dK D_Mo_lay 13 rfl) rfl (fun hc5 => ?_) (fun hc5 => ?_)
  · replace h := ifP h hc5
    refine vg_iconst (pc := 26) (dK D_Mo_lay 14 rfl) ?_
    exact vg_iretI (pc := 27) (r := 0) (dK D_Mo_lay 15 rfl) rfl (leK rfl) (leK rfl) (fun _ => rfl) (by obtain rfl := Option.some.inj h; exact ⟨rfl, (inRk rfl), rfl⟩)
  · replace h := ifN h hc5
    refine g_aloadn (pc := 28) (i0 := 0) (j := 0) (dK D_Mo_lay 16 rfl) rfl rfl ?_
    refine g_iloadn (pc := 29) (i0 := 1) (j := 1) (dK D_Mo_lay 17 rfl) rfl rfl ?_
    refine g_iloadn (pc := 30) (i0 := 2) (j := 2) (dK D_Mo_lay 18 rfl) rfl rfl ?_
    refine bnE h (fun p6 e_p6 h => ?_)
    refine vg_cV (pc := 31) (As := [V a1, V a2]) (rest := []) (mc' := 0) (ms' := 0) (dK D_Mo_lay 19 rfl) K_Mo_135 (fitK rfl) (ltK rfl) hc0 rfl (leK rfl) (leK rfl) (leK rfl) (tf_Mo_storyReasonOf hc0 ha1 ha2 e_p6) (kcI (fun h_p6 => ?_))
    refine g_istoren (pc := 34) (i0 := 3) (ls2 := [(3, V p6), (0, .ref c0), (1, V a1), (2, V a2)]) (dK D_Mo_lay 20 rfl) rfl (ltK rfl) rfl ?_
    refine g_iloadn (pc := 35) (i0 := 3) (j := 0) (dK D_Mo_lay 21 rfl) rfl rfl ?_
    refine vg_iconst (pc := 36) (dK D_Mo_lay 22 rfl) ?_
    refine vg_icmp_eq (pc := 37) (t := 50) (dK D_Mo_lay 23 rfl) rfl h_p6 (inRk rfl) (fun hc17 => ?_) (fun hc17 => ?_)
    · replace h := ifP h hc17
      refine g_iloadn (pc := 50) (i0 := 3) (j := 0) (dK D_Mo_lay 30 rfl) rfl rfl ?_
      refine vg_if_le (pc := 51) (t := 56) (dK D_Mo_lay 31 rfl) rfl h_p6 (fun hc10 => ?_) (fun hc10 => ?_)
      · replace h := ifP h hc10
        refine g_aloadn (pc := 56) (i0 := 0) (j := 1) (dK D_Mo_lay 34 rfl) rfl rfl ?_
        refine bnE h (fun p7 e_p7 h => ?_)
        refine vg_cV (pc := 57) (As := []) (rest := []) (mc' := 0) (ms' := 0) (dK D_Mo_lay 35 rfl) K_Mo_159 (fitK rfl) (ltK rfl) hc0 rfl (leK rfl) (leK rfl) (leK rfl) (tf_Mo_record hc0 e_p7) (kcU ?_)
        refine g_aloadn (pc := 60) (i0 := 0) (j := 1) (dK D_Mo_lay 36 rfl) rfl rfl ?_
        refine vg_getA (pc := 61) (ci := 11) (f := 0) (dK D_Mo_lay 37 rfl) q_1442 hc0 (ltK rfl) (ltK rfl) rfl ?_
        refine vg_sipush (pc := 64) (dK D_Mo_lay 38 rfl) rfl ?_
        refine vg_iconst (pc := 67) (dK D_Mo_lay 39 rfl) ?_
        refine g_iloadn (pc := 68) (i0 := 1) (j := 2) (dK D_Mo_lay 40 rfl) rfl rfl ?_
        refine vg_imul (pc := 69) (dK D_Mo_lay 41 rfl) ?_
        refine vg_iadd (pc := 70) (dK D_Mo_lay 42 rfl) ?_
        refine vg_iconst (pc := 71) (dK D_Mo_lay 43 rfl) ?_
        refine vg_iadd (pc := 72) (dK D_Mo_lay 44 rfl) ?_
        refine g_iloadn (pc := 73) (i0 := 2) (j := 3) (dK D_Mo_lay 45 rfl) rfl rfl ?_
        refine gdE h (fun hi8 h => ?_)
        refine nmE h (fun S9 e_S9 h => ?_)
        refine vg_iastore (pc := 74) (z := a2) (dK D_Mo_lay 46 rfl) (hw_11_0 hc0) rfl hi8 rfl e_S9 ?_
        refine vg_iconst (pc := 75) (dK D_Mo_lay 47 rfl) ?_
        exact vg_iretI (pc := 76) (r := 0) (dK D_Mo_lay 48 rfl) rfl (leK rfl) (leK rfl) (fun _ => rfl) (by obtain rfl := Option.some.inj h; exact ⟨rfl, (inRk rfl), rfl⟩)
      · replace h := ifN h hc10
        refine g_iloadn (pc := 54) (i0 := 3) (j := 0) (dK D_Mo_lay 32 rfl) rfl rfl ?_
        exact vg_iretI (pc := 55) (r := p6) (dK D_Mo_lay 33 rfl) rfl (leK rfl) (leK rfl) (fun _ => rfl) (by obtain rfl := Option.some.inj h; exact ⟨rfl, h_p6, rfl⟩)
    · replace h := ifN h hc17
      refine g_aloadn (pc := 40) (i0 := 0) (j := 1) (dK D_Mo_lay 24 rfl) rfl rfl ?_
      refine g_iloadn (pc := 41) (i0 := 1) (j := 2) (dK D_Mo_lay 25 rfl) rfl rfl ?_
      refine bnE h (fun p11 e_p11 h => ?_)
      refine vg_cV (pc := 42) (As := [V a1]) (rest := []) (mc' := 0) (ms' := 0) (dK D_Mo_lay 26 rfl) K_Mo_214 (fitK rfl) (ltK rfl) hc0 rfl (leK rfl) (leK rfl) (leK rfl) (tf_Mo_isStoryPrinted hc0 ha1 e_p11) (kcB ?_)
      refine vg_ifB_eq (pc := 45) (b := p11) (t := 50) (dK D_Mo_lay 27 rfl) rfl (fun hc12 => ?_) (fun hc12 => ?_)
      · replace h := ifP h hc12
        refine vg_iconst (pc := 48) (dK D_Mo_lay 28 rfl) ?_
        refine g_istoren (pc := 49) (i0 := 3) (ls2 := [(3, V 2), (0, .ref c0), (1, V a1), (2, V a2)]) (dK D_Mo_lay 29 rfl) rfl (ltK rfl) rfl ?_
        refine g_iloadn (pc := 50) (i0 := 3) (j := 0) (dK D_Mo_lay 30 rfl) rfl rfl ?_
        refine vg_if_le (pc := 51) (t := 56) (dK D_Mo_lay 31 rfl) rfl (inRk rfl) (fun hc => absurd hc (by decide)) (fun _ => ?_)
        refine g_iloadn (pc := 54) (i0 := 3) (j := 0) (dK D_Mo_lay 32 rfl) rfl rfl ?_
        exact vg_iretI (pc := 55) (r := 2) (dK D_Mo_lay 33 rfl) rfl (leK rfl) (leK rfl) (fun _ => rfl) (by obtain rfl := Option.some.inj h; exact ⟨rfl, (inRk rfl), rfl⟩)
      · replace h := ifN h hc12
        refine g_iloadn (pc := 50) (i0 := 3) (j := 0) (dK D_Mo_lay 30 rfl) rfl rfl ?_
        refine vg_if_le (pc := 51) (t := 56) (dK D_Mo_lay 31 rfl) rfl h_p6 (fun hc16 => ?_) (fun hc16 => ?_)
        · replace h := ifP h hc16
          refine g_aloadn (pc := 56) (i0 := 0) (j := 1) (dK D_Mo_lay 34 rfl) rfl rfl ?_
          refine bnE h (fun p13 e_p13 h => ?_)
          refine vg_cV (pc := 57) (As := []) (rest := []) (mc' := 0) (ms' := 0) (dK D_Mo_lay 35 rfl) K_Mo_159 (fitK rfl) (ltK rfl) hc0 rfl (leK rfl) (leK rfl) (leK rfl) (tf_Mo_record hc0 e_p13) (kcU ?_)
          refine g_aloadn (pc := 60) (i0 := 0) (j := 1) (dK D_Mo_lay 36 rfl) rfl rfl ?_
          refine vg_getA (pc := 61) (ci := 11) (f := 0) (dK D_Mo_lay 37 rfl) q_1442 hc0 (ltK rfl) (ltK rfl) rfl ?_
          refine vg_sipush (pc := 64) (dK D_Mo_lay 38 rfl) rfl ?_
          refine vg_iconst (pc := 67) (dK D_Mo_lay 39 rfl) ?_
          refine g_iloadn (pc := 68) (i0 := 1) (j := 2) (dK D_Mo_lay 40 rfl) rfl rfl ?_
          refine vg_imul (pc := 69) (dK D_Mo_lay 41 rfl) ?_
          refine vg_iadd (pc := 70) (dK D_Mo_lay 42 rfl) ?_
          refine vg_iconst (pc := 71) (dK D_Mo_lay 43 rfl) ?_
          refine vg_iadd (pc := 72) (dK D_Mo_lay 44 rfl) ?_
          refine g_iloadn (pc := 73) (i0 := 2) (j := 3) (dK D_Mo_lay 45 rfl) rfl rfl ?_
          refine gdE h (fun hi14 h => ?_)
          refine nmE h (fun S15 e_S15 h => ?_)
          refine vg_iastore (pc := 74) (z := a2) (dK D_Mo_lay 46 rfl) (hw_11_0 hc0) rfl hi14 rfl e_S15 ?_
          refine vg_iconst (pc := 75) (dK D_Mo_lay 47 rfl) ?_
          exact vg_iretI (pc := 76) (r := 0) (dK D_Mo_lay 48 rfl) rfl (leK rfl) (leK rfl) (fun _ => rfl) (by obtain rfl := Option.some.inj h; exact ⟨rfl, (inRk rfl), rfl⟩)
        · replace h := ifN h hc16
          refine g_iloadn (pc := 54) (i0 := 3) (j := 0) (dK D_Mo_lay 32 rfl) rfl rfl ?_
          exact vg_iretI (pc := 55) (r := p6) (dK D_Mo_lay 33 rfl) rfl (leK rfl) (leK rfl) (fun _ => rfl) (by obtain rfl := Option.some.inj h; exact ⟨rfl, h_p6, rfl⟩)
def fn_Mo_lay (c0 : Nat) (a1 : Int) (a2 : Int) (S : St) : Option (Int × St) := nm (u S c0 4 0) fun S1 => bnO (fn_Mo_isStory c0 a1 S1) fun p2 => if p2 = true then (jf_Mo_lay_19 c0 a1 a2 0 c0 S1) else (jf_Mo_lay_19 c0 a1 a2 1 c0 S1)
theorem tf_Mo_lay {E : EV} {X : XT} {c0 : Nat} (hc0 : HC X 11 c0) {a1 : Int} (ha1 : inR a1) {a2 : Int} (ha2 : inR a2) {S : St} {q : Int × St} (h : fn_Mo_lay c0 a1 a2 S = some q) : Ev E M_Mo_lay [.ref c0, V a1, V a2] (WX X S) 0 0 (KI X q.1 q.2) := by
  refine Ev.of pn_Mo rfl (leK rfl) ?_
  show Go E M_Mo_lay 0 0 0 [(0, .ref c0), (1, V a1), (2, V a2)] [] (WX X S) 0 0 (KI X q.1 q.2)
  unfold fn_Mo_lay at h
  refine g_aloadn (pc := 0) (i0 := 0) (j := 0) (dK D_Mo_lay 0 rfl) rfl rfl ?_
  refine vg_iconst (pc := 1) (dK D_Mo_lay 1 rfl) ?_
  refine nmE h (fun S1 e_S1 h => ?_)
  refine vg_putI (pc := 2) (ci := 11) (f := 4) (z := 0) (dK D_Mo_lay 2 rfl) q_1446 hc0 (ltK rfl) (ltK rfl) rfl rfl e_S1 ?_
  refine g_aloadn (pc := 5) (i0 := 0) (j := 0) (dK D_Mo_lay 3 rfl) rfl rfl ?_
  refine g_aloadn (pc := 6) (i0 := 0) (j := 0) (dK D_Mo_lay 4 rfl) rfl rfl ?_
  refine g_iloadn (pc := 7) (i0 := 1) (j := 1) (dK D_Mo_lay 5 rfl) rfl rfl ?_
  refine bnE h (fun p2 e_p2 h => ?_)
  refine vg_cV (pc := 8) (As := [V a1]) (rest := [.ref c0]) (mc' := 0) (ms' := 0) (dK D_Mo_lay 6 rfl) K_Mo_132 (fitK rfl) (ltK rfl) hc0 rfl (leK rfl) (leK rfl) (leK rfl) (tf_Mo_isStory hc0 ha1 e_p2) (kcB ?_)
  refine vg_ifB_ne (pc := 11) (b := p2) (t := 18) (dK D_Mo_lay 7 rfl) rfl (fun hc3 => ?_) (fun hc3 => ?_)
  · replace h := ifP h hc3
    refine vg_iconst (pc := 18) (dK D_Mo_lay 10 rfl) ?_
    exact tj_Mo_lay_19 hc0 ha1 ha2 (inRk rfl) hc0 h
  · replace h := ifN h hc3
    refine vg_iconst (pc := 14) (dK D_Mo_lay 8 rfl) ?_
    refine g_goto (pc := 15) (tgt := 19) (dK D_Mo_lay 9 rfl) rfl ?_
    exact tj_Mo_lay_19 hc0 ha1 ha2 (inRk rfl) hc0 h
def fn_Mo_take (c0 : Nat) (a1 : Int) (S : St) : Option (Bool × St) := nm (u S c0 4 0) fun S1 => bnO (fn_Mo_isAd c0 a1 S1) fun p2 => if p2 = true then (bnO (fn_Mo_throwsIf c0 0 1 S1) fun p4 => if p4.1 = true then (some (false, p4.2)) else (bnO (fn_Mo_ofAd c0 a1 6 p4.2) fun p6 => if p6 = 0 then (some (false, p4.2)) else (bnO (fn_Mo_ofAd c0 a1 6 p4.2) fun p7 => bnO (fn_Mo_isPrinted c0 p7 p4.2) fun p8 => if p8 = true then (some (false, p4.2)) else (bnO (fn_Mo_record c0 p4.2) fun p10 => bnO (fn_Mo_setOfAd c0 a1 6 0 p10) fun p11 => some (true, p11))))) else (bnO (fn_Mo_throwsIf c0 1 1 S1) fun p13 => if p13.1 = true then (some (false, p13.2)) else (bnO (fn_Mo_ofAd c0 a1 6 p13.2) fun p15 => if p15 = 0 then (some (false, p13.2)) else (bnO (fn_Mo_ofAd c0 a1 6 p13.2) fun p16 => bnO (fn_Mo_isPrinted c0 p16 p13.2) fun p17 => if p17 = true then (some (false, p13.2)) else (bnO (fn_Mo_record c0 p13.2) fun p19 => bnO (fn_Mo_setOfAd c0 a1 6 0 p19) fun p20 => some (true, p20)))))
theorem tf_Mo_take {E : EV} {X : XT} {c0 : Nat} (hc0 : HC X 11 c0) {a1 : Int} (ha1 : inR a1) {S : St} {q : Bool × St} (h : fn_Mo_take c0 a1 S = some q) : Ev E M_Mo_take [.ref c0, V a1] (WX X S) 0 0 (KB X q.1 q.2) := by
  refine Ev.of pn_Mo rfl (leK rfl) ?_
  show Go E M_Mo_take 0 0 0 [(0, .ref c0), (1, V a1)] [] (WX X S) 0 0 (KB X q.1 q.2)
  unfold fn_Mo_take at h
  refine g_aloadn (pc := 0) (i0 := 0) (j := 0) (dK D_Mo_take 0 rfl) rfl rfl ?_
  refine vg_iconst (pc := 1) (dK D_Mo_take 1 rfl) ?_
  refine nmE h (fun S1 e_S1 h => ?_)
  refine vg_putI (pc := 2) (ci := 11) (f := 4) (z := 0) (dK D_Mo_take 2 rfl) q_1446 hc0 (ltK rfl) (ltK rfl) rfl rfl e_S1 ?_
  refine g_aloadn (pc := 5) (i0 := 0) (j := 0) (dK D_Mo_take 3 rfl) rfl rfl ?_
  refine g_aloadn (pc := 6) (i0 := 0) (j := 0) (dK D_Mo_take 4 rfl) rfl rfl ?_
  refine g_iloadn (pc := 7) (i0 := 1) (j := 1) (dK D_Mo_take 5 rfl) rfl rfl ?_
  refine bnE h (fun p2 e_p2 h => ?_)
  refine vg_cV (pc := 8) (As := [V a1]) (rest := [.ref c0]) (mc' := 0) (ms' := 0) (dK D_Mo_take 6 rfl) K_Mo_122 (fitK rfl) (ltK rfl) hc0 rfl (leK rfl) (leK rfl) (leK rfl) (tf_Mo_isAd hc0 ha1 e_p2) (kcB ?_)
  refine vg_ifB_ne (pc := 11) (b := p2) (t := 18) (dK D_Mo_take 7 rfl) rfl (fun hc3 => ?_) (fun hc3 => ?_)
  · replace h := ifP h hc3
    refine vg_iconst (pc := 18) (dK D_Mo_take 10 rfl) ?_
    refine vg_iconst (pc := 19) (dK D_Mo_take 11 rfl) ?_
    refine bnE h (fun p4 e_p4 h => ?_)
    refine vg_cV (pc := 20) (As := [V 0, V 1]) (rest := []) (mc' := 0) (ms' := 0) (dK D_Mo_take 12 rfl) K_Mo_125 (fitK rfl) (ltK rfl) hc0 rfl (leK rfl) (leK rfl) (leK rfl) (tf_Mo_throwsIf hc0 (inRk rfl) (inRk rfl) e_p4) (kcB ?_)
    refine vg_ifB_ne (pc := 23) (b := p4.1) (t := 50) (dK D_Mo_take 13 rfl) rfl (fun hc5 => ?_) (fun hc5 => ?_)
    · replace h := ifP h hc5
      refine vg_iconst (pc := 50) (dK D_Mo_take 26 rfl) ?_
      exact vg_iretB (pc := 51) (b := false) (dK D_Mo_take 27 rfl) rfl (leK rfl) (leK rfl) (fun _ => rfl) (by obtain rfl := Option.some.inj h; exact ⟨rfl, rfl⟩)
    · replace h := ifN h hc5
      refine g_aloadn (pc := 26) (i0 := 0) (j := 0) (dK D_Mo_take 14 rfl) rfl rfl ?_
      refine g_iloadn (pc := 27) (i0 := 1) (j := 1) (dK D_Mo_take 15 rfl) rfl rfl ?_
      refine vg_bipush (pc := 28) (dK D_Mo_take 16 rfl) rfl ?_
      refine bnE h (fun p6 e_p6 h => ?_)
      refine vg_cV (pc := 30) (As := [V a1, V 6]) (rest := []) (mc' := 0) (ms' := 0) (dK D_Mo_take 17 rfl) K_Mo_82 (fitK rfl) (ltK rfl) hc0 rfl (leK rfl) (leK rfl) (leK rfl) (tf_Mo_ofAd hc0 ha1 (inRk rfl) e_p6) (kcI (fun h_p6 => ?_))
      refine vg_if_eq (pc := 33) (t := 50) (dK D_Mo_take 18 rfl) rfl h_p6 (fun hc12 => ?_) (fun hc12 => ?_)
      · replace h := ifP h hc12
        refine vg_iconst (pc := 50) (dK D_Mo_take 26 rfl) ?_
        exact vg_iretB (pc := 51) (b := false) (dK D_Mo_take 27 rfl) rfl (leK rfl) (leK rfl) (fun _ => rfl) (by obtain rfl := Option.some.inj h; exact ⟨rfl, rfl⟩)
      · replace h := ifN h hc12
        refine g_aloadn (pc := 36) (i0 := 0) (j := 0) (dK D_Mo_take 19 rfl) rfl rfl ?_
        refine g_aloadn (pc := 37) (i0 := 0) (j := 0) (dK D_Mo_take 20 rfl) rfl rfl ?_
        refine g_iloadn (pc := 38) (i0 := 1) (j := 1) (dK D_Mo_take 21 rfl) rfl rfl ?_
        refine vg_bipush (pc := 39) (dK D_Mo_take 22 rfl) rfl ?_
        refine bnE h (fun p7 e_p7 h => ?_)
        refine vg_cV (pc := 41) (As := [V a1, V 6]) (rest := [.ref c0]) (mc' := 0) (ms' := 0) (dK D_Mo_take 23 rfl) K_Mo_82 (fitK rfl) (ltK rfl) hc0 rfl (leK rfl) (leK rfl) (leK rfl) (tf_Mo_ofAd hc0 ha1 (inRk rfl) e_p7) (kcI (fun h_p7 => ?_))
        refine bnE h (fun p8 e_p8 h => ?_)
        refine vg_cV (pc := 44) (As := [V p7]) (rest := []) (mc' := 0) (ms' := 0) (dK D_Mo_take 24 rfl) K_Mo_109 (fitK rfl) (ltK rfl) hc0 rfl (leK rfl) (leK rfl) (leK rfl) (tf_Mo_isPrinted hc0 h_p7 e_p8) (kcB ?_)
        refine vg_ifB_eq (pc := 47) (b := p8) (t := 52) (dK D_Mo_take 25 rfl) rfl (fun hc9 => ?_) (fun hc9 => ?_)
        · replace h := ifP h hc9
          refine vg_iconst (pc := 50) (dK D_Mo_take 26 rfl) ?_
          exact vg_iretB (pc := 51) (b := false) (dK D_Mo_take 27 rfl) rfl (leK rfl) (leK rfl) (fun _ => rfl) (by obtain rfl := Option.some.inj h; exact ⟨rfl, rfl⟩)
        · replace h := ifN h hc9
          refine g_aloadn (pc := 52) (i0 := 0) (j := 0) (dK D_Mo_take 28 rfl) rfl rfl ?_
          refine bnE h (fun p10 e_p10 h => ?_)
          refine vg_cV (pc := 53) (As := []) (rest := []) (mc' := 0) (ms' := 0) (dK D_Mo_take 29 rfl) K_Mo_159 (fitK rfl) (ltK rfl) hc0 rfl (leK rfl) (leK rfl) (leK rfl) (tf_Mo_record hc0 e_p10) (kcU ?_)
          refine g_aloadn (pc := 56) (i0 := 0) (j := 0) (dK D_Mo_take 30 rfl) rfl rfl ?_
          refine g_iloadn (pc := 57) (i0 := 1) (j := 1) (dK D_Mo_take 31 rfl) rfl rfl ?_
          refine vg_bipush (pc := 58) (dK D_Mo_take 32 rfl) rfl ?_
          refine vg_iconst (pc := 60) (dK D_Mo_take 33 rfl) ?_
          refine bnE h (fun p11 e_p11 h => ?_)
          refine vg_cV (pc := 61) (As := [V a1, V 6, V 0]) (rest := []) (mc' := 0) (ms' := 0) (dK D_Mo_take 34 rfl) K_Mo_162 (fitK rfl) (ltK rfl) hc0 rfl (leK rfl) (leK rfl) (leK rfl) (tf_Mo_setOfAd hc0 ha1 (inRk rfl) (inRk rfl) e_p11) (kcU ?_)
          refine vg_iconst (pc := 64) (dK D_Mo_take 35 rfl) ?_
          exact vg_iretB (pc := 65) (b := true) (dK D_Mo_take 36 rfl) rfl (leK rfl) (leK rfl) (fun _ => rfl) (by obtain rfl := Option.some.inj h; exact ⟨rfl, rfl⟩)
  · replace h := ifN h hc3
    refine vg_iconst (pc := 14) (dK D_Mo_take 8 rfl) ?_
    refine g_goto (pc := 15) (tgt := 19) (dK D_Mo_take 9 rfl) rfl ?_
    refine vg_iconst (pc := 19) (dK D_Mo_take 11 rfl) ?_
    refine bnE h (fun p13 e_p13 h => ?_)
    refine vg_cV (pc := 20) (As := [V 1, V 1]) (rest := []) (mc' := 0) (ms' := 0) (dK D_Mo_take 12 rfl) K_Mo_125 (fitK rfl) (ltK rfl) hc0 rfl (leK rfl) (leK rfl) (leK rfl) (tf_Mo_throwsIf hc0 (inRk rfl) (inRk rfl) e_p13) (kcB ?_)
    refine vg_ifB_ne (pc := 23) (b := p13.1) (t := 50) (dK D_Mo_take 13 rfl) rfl (fun hc14 => ?_) (fun hc14 => ?_)
    · replace h := ifP h hc14
      refine vg_iconst (pc := 50) (dK D_Mo_take 26 rfl) ?_
      exact vg_iretB (pc := 51) (b := false) (dK D_Mo_take 27 rfl) rfl (leK rfl) (leK rfl) (fun _ => rfl) (by obtain rfl := Option.some.inj h; exact ⟨rfl, rfl⟩)
    · replace h := ifN h hc14
      refine g_aloadn (pc := 26) (i0 := 0) (j := 0) (dK D_Mo_take 14 rfl) rfl rfl ?_
      refine g_iloadn (pc := 27) (i0 := 1) (j := 1) (dK D_Mo_take 15 rfl) rfl rfl ?_
      refine vg_bipush (pc := 28) (dK D_Mo_take 16 rfl) rfl ?_
      refine bnE h (fun p15 e_p15 h => ?_)
      refine vg_cV (pc := 30) (As := [V a1, V 6]) (rest := []) (mc' := 0) (ms' := 0) (dK D_Mo_take 17 rfl) K_Mo_82 (fitK rfl) (ltK rfl) hc0 rfl (leK rfl) (leK rfl) (leK rfl) (tf_Mo_ofAd hc0 ha1 (inRk rfl) e_p15) (kcI (fun h_p15 => ?_))
      refine vg_if_eq (pc := 33) (t := 50) (dK D_Mo_take 18 rfl) rfl h_p15 (fun hc21 => ?_) (fun hc21 => ?_)
      · replace h := ifP h hc21
        refine vg_iconst (pc := 50) (dK D_Mo_take 26 rfl) ?_
        exact vg_iretB (pc := 51) (b := false) (dK D_Mo_take 27 rfl) rfl (leK rfl) (leK rfl) (fun _ => rfl) (by obtain rfl := Option.some.inj h; exact ⟨rfl, rfl⟩)
      · replace h := ifN h hc21
        refine g_aloadn (pc := 36) (i0 := 0) (j := 0) (dK D_Mo_take 19 rfl) rfl rfl ?_
        refine g_aloadn (pc := 37) (i0 := 0) (j := 0) (dK D_Mo_take 20 rfl) rfl rfl ?_
        refine g_iloadn (pc := 38) (i0 := 1) (j := 1) (dK D_Mo_take 21 rfl) rfl rfl ?_
        refine vg_bipush (pc := 39) (dK D_Mo_take 22 rfl) rfl ?_
        refine bnE h (fun p16 e_p16 h => ?_)
        refine vg_cV (pc := 41) (As := [V a1, V 6]) (rest := [.ref c0]) (mc' := 0) (ms' := 0) (dK D_Mo_take 23 rfl) K_Mo_82 (fitK rfl) (ltK rfl) hc0 rfl (leK rfl) (leK rfl) (leK rfl) (tf_Mo_ofAd hc0 ha1 (inRk rfl) e_p16) (kcI (fun h_p16 => ?_))
        refine bnE h (fun p17 e_p17 h => ?_)
        refine vg_cV (pc := 44) (As := [V p16]) (rest := []) (mc' := 0) (ms' := 0) (dK D_Mo_take 24 rfl) K_Mo_109 (fitK rfl) (ltK rfl) hc0 rfl (leK rfl) (leK rfl) (leK rfl) (tf_Mo_isPrinted hc0 h_p16 e_p17) (kcB ?_)
        refine vg_ifB_eq (pc := 47) (b := p17) (t := 52) (dK D_Mo_take 25 rfl) rfl (fun hc18 => ?_) (fun hc18 => ?_)
        · replace h := ifP h hc18
          refine vg_iconst (pc := 50) (dK D_Mo_take 26 rfl) ?_
          exact vg_iretB (pc := 51) (b := false) (dK D_Mo_take 27 rfl) rfl (leK rfl) (leK rfl) (fun _ => rfl) (by obtain rfl := Option.some.inj h; exact ⟨rfl, rfl⟩)
        · replace h := ifN h hc18
          refine g_aloadn (pc := 52) (i0 := 0) (j := 0) (dK D_Mo_take 28 rfl) rfl rfl ?_
          refine bnE h (fun p19 e_p19 h => ?_)
          refine vg_cV (pc := 53) (As := []) (rest := []) (mc' := 0) (ms' := 0) (dK D_Mo_take 29 rfl) K_Mo_159 (fitK rfl) (ltK rfl) hc0 rfl (leK rfl) (leK rfl) (leK rfl) (tf_Mo_record hc0 e_p19) (kcU ?_)
          refine g_aloadn (pc := 56) (i0 := 0) (j := 0) (dK D_Mo_take 30 rfl) rfl rfl ?_
          refine g_iloadn (pc := 57) (i0 := 1) (j := 1) (dK D_Mo_take 31 rfl) rfl rfl ?_
          refine vg_bipush (pc := 58) (dK D_Mo_take 32 rfl) rfl ?_
          refine vg_iconst (pc := 60) (dK D_Mo_take 33 rfl) ?_
          refine bnE h (fun p20 e_p20 h => ?_)
          refine vg_cV (pc := 61) (As := [V a1, V 6, V 0]) (rest := []) (mc' := 0) (ms' := 0) (dK D_Mo_take 34 rfl) K_Mo_162 (fitK rfl) (ltK rfl) hc0 rfl (leK rfl) (leK rfl) (leK rfl) (tf_Mo_setOfAd hc0 ha1 (inRk rfl) (inRk rfl) e_p20) (kcU ?_)
          refine vg_iconst (pc := 64) (dK D_Mo_take 35 rfl) ?_
          exact vg_iretB (pc := 65) (b := true) (dK D_Mo_take 36 rfl) rfl (leK rfl) (leK rfl) (fun _ => rfl) (by obtain rfl := Option.some.inj h; exact ⟨rfl, rfl⟩)
def fn_Mo_takeStory (c0 : Nat) (a1 : Int) (S : St) : Option (Bool × St) := nm (u S c0 4 0) fun S1 => bnO (fn_Mo_isStory c0 a1 S1) fun p2 => if p2 = true then (bnO (fn_Mo_throwsIf c0 0 1 S1) fun p4 => if p4.1 = true then (some (false, p4.2)) else (bnO (fn_Mo_ofStory c0 a1 4 p4.2) fun p6 => if p6 = 0 then (some (false, p4.2)) else (bnO (fn_Mo_isStoryPrinted c0 a1 p4.2) fun p7 => if p7 = true then (some (false, p4.2)) else (bnO (fn_Mo_record c0 p4.2) fun p9 => if 0 ≤ ((309 + (5 * a1)) + 4) ∧ ((309 + (5 * a1)) + 4) < 8740 then (nm (u p9 (tgt c0 0) ((((309 + (5 * a1)) + 4)).toNat) 0) fun S11 => some (true, S11)) else none)))) else (bnO (fn_Mo_throwsIf c0 1 1 S1) fun p13 => if p13.1 = true then (some (false, p13.2)) else (bnO (fn_Mo_ofStory c0 a1 4 p13.2) fun p15 => if p15 = 0 then (some (false, p13.2)) else (bnO (fn_Mo_isStoryPrinted c0 a1 p13.2) fun p16 => if p16 = true then (some (false, p13.2)) else (bnO (fn_Mo_record c0 p13.2) fun p18 => if 0 ≤ ((309 + (5 * a1)) + 4) ∧ ((309 + (5 * a1)) + 4) < 8740 then (nm (u p18 (tgt c0 0) ((((309 + (5 * a1)) + 4)).toNat) 0) fun S20 => some (true, S20)) else none))))
theorem tf_Mo_takeStory {E : EV} {X : XT} {c0 : Nat} (hc0 : HC X 11 c0) {a1 : Int} (ha1 : inR a1) {S : St} {q : Bool × St} (h : fn_Mo_takeStory c0 a1 S = some q) : Ev E M_Mo_takeStory [.ref c0, V a1] (WX X S) 0 0 (KB X q.1 q.2) := by
  refine Ev.of pn_Mo rfl (leK rfl) ?_
  show Go E M_Mo_takeStory 0 0 0 [(0, .ref c0), (1, V a1)] [] (WX X S) 0 0 (KB X q.1 q.2)
  unfold fn_Mo_takeStory at h
  refine g_aloadn (pc := 0) (i0 := 0) (j := 0) (dK D_Mo_takeStory 0 rfl) rfl rfl ?_
  refine vg_iconst (pc := 1) (dK D_Mo_takeStory 1 rfl) ?_
  refine nmE h (fun S1 e_S1 h => ?_)
  refine vg_putI (pc := 2) (ci := 11) (f := 4) (z := 0) (dK D_Mo_takeStory 2 rfl) q_1446 hc0 (ltK rfl) (ltK rfl) rfl rfl e_S1 ?_
  refine g_aloadn (pc := 5) (i0 := 0) (j := 0) (dK D_Mo_takeStory 3 rfl) rfl rfl ?_
  refine g_aloadn (pc := 6) (i0 := 0) (j := 0) (dK D_Mo_takeStory 4 rfl) rfl rfl ?_
  refine g_iloadn (pc := 7) (i0 := 1) (j := 1) (dK D_Mo_takeStory 5 rfl) rfl rfl ?_
  refine bnE h (fun p2 e_p2 h => ?_)
  refine vg_cV (pc := 8) (As := [V a1]) (rest := [.ref c0]) (mc' := 0) (ms' := 0) (dK D_Mo_takeStory 6 rfl) K_Mo_132 (fitK rfl) (ltK rfl) hc0 rfl (leK rfl) (leK rfl) (leK rfl) (tf_Mo_isStory hc0 ha1 e_p2) (kcB ?_)
  refine vg_ifB_ne (pc := 11) (b := p2) (t := 18) (dK D_Mo_takeStory 7 rfl) rfl (fun hc3 => ?_) (fun hc3 => ?_)
  · replace h := ifP h hc3
    refine vg_iconst (pc := 18) (dK D_Mo_takeStory 10 rfl) ?_
    refine vg_iconst (pc := 19) (dK D_Mo_takeStory 11 rfl) ?_
    refine bnE h (fun p4 e_p4 h => ?_)
    refine vg_cV (pc := 20) (As := [V 0, V 1]) (rest := []) (mc' := 0) (ms' := 0) (dK D_Mo_takeStory 12 rfl) K_Mo_125 (fitK rfl) (ltK rfl) hc0 rfl (leK rfl) (leK rfl) (leK rfl) (tf_Mo_throwsIf hc0 (inRk rfl) (inRk rfl) e_p4) (kcB ?_)
    refine vg_ifB_ne (pc := 23) (b := p4.1) (t := 43) (dK D_Mo_takeStory 13 rfl) rfl (fun hc5 => ?_) (fun hc5 => ?_)
    · replace h := ifP h hc5
      refine vg_iconst (pc := 43) (dK D_Mo_takeStory 23 rfl) ?_
      exact vg_iretB (pc := 44) (b := false) (dK D_Mo_takeStory 24 rfl) rfl (leK rfl) (leK rfl) (fun _ => rfl) (by obtain rfl := Option.some.inj h; exact ⟨rfl, rfl⟩)
    · replace h := ifN h hc5
      refine g_aloadn (pc := 26) (i0 := 0) (j := 0) (dK D_Mo_takeStory 14 rfl) rfl rfl ?_
      refine g_iloadn (pc := 27) (i0 := 1) (j := 1) (dK D_Mo_takeStory 15 rfl) rfl rfl ?_
      refine vg_iconst (pc := 28) (dK D_Mo_takeStory 16 rfl) ?_
      refine bnE h (fun p6 e_p6 h => ?_)
      refine vg_cV (pc := 29) (As := [V a1, V 4]) (rest := []) (mc' := 0) (ms' := 0) (dK D_Mo_takeStory 17 rfl) K_Mo_85 (fitK rfl) (ltK rfl) hc0 rfl (leK rfl) (leK rfl) (leK rfl) (tf_Mo_ofStory hc0 ha1 (inRk rfl) e_p6) (kcI (fun h_p6 => ?_))
      refine vg_if_eq (pc := 32) (t := 43) (dK D_Mo_takeStory 18 rfl) rfl h_p6 (fun hc12 => ?_) (fun hc12 => ?_)
      · replace h := ifP h hc12
        refine vg_iconst (pc := 43) (dK D_Mo_takeStory 23 rfl) ?_
        exact vg_iretB (pc := 44) (b := false) (dK D_Mo_takeStory 24 rfl) rfl (leK rfl) (leK rfl) (fun _ => rfl) (by obtain rfl := Option.some.inj h; exact ⟨rfl, rfl⟩)
      · replace h := ifN h hc12
        refine g_aloadn (pc := 35) (i0 := 0) (j := 0) (dK D_Mo_takeStory 19 rfl) rfl rfl ?_
        refine g_iloadn (pc := 36) (i0 := 1) (j := 1) (dK D_Mo_takeStory 20 rfl) rfl rfl ?_
        refine bnE h (fun p7 e_p7 h => ?_)
        refine vg_cV (pc := 37) (As := [V a1]) (rest := []) (mc' := 0) (ms' := 0) (dK D_Mo_takeStory 21 rfl) K_Mo_214 (fitK rfl) (ltK rfl) hc0 rfl (leK rfl) (leK rfl) (leK rfl) (tf_Mo_isStoryPrinted hc0 ha1 e_p7) (kcB ?_)
        refine vg_ifB_eq (pc := 40) (b := p7) (t := 45) (dK D_Mo_takeStory 22 rfl) rfl (fun hc8 => ?_) (fun hc8 => ?_)
        · replace h := ifP h hc8
          refine vg_iconst (pc := 43) (dK D_Mo_takeStory 23 rfl) ?_
          exact vg_iretB (pc := 44) (b := false) (dK D_Mo_takeStory 24 rfl) rfl (leK rfl) (leK rfl) (fun _ => rfl) (by obtain rfl := Option.some.inj h; exact ⟨rfl, rfl⟩)
        · replace h := ifN h hc8
          refine g_aloadn (pc := 45) (i0 := 0) (j := 0) (dK D_Mo_takeStory 25 rfl) rfl rfl ?_
          refine bnE h (fun p9 e_p9 h => ?_)
          refine vg_cV (pc := 46) (As := []) (rest := []) (mc' := 0) (ms' := 0) (dK D_Mo_takeStory 26 rfl) K_Mo_159 (fitK rfl) (ltK rfl) hc0 rfl (leK rfl) (leK rfl) (leK rfl) (tf_Mo_record hc0 e_p9) (kcU ?_)
          refine g_aloadn (pc := 49) (i0 := 0) (j := 0) (dK D_Mo_takeStory 27 rfl) rfl rfl ?_
          refine vg_getA (pc := 50) (ci := 11) (f := 0) (dK D_Mo_takeStory 28 rfl) q_1442 hc0 (ltK rfl) (ltK rfl) rfl ?_
          refine vg_sipush (pc := 53) (dK D_Mo_takeStory 29 rfl) rfl ?_
          refine vg_iconst (pc := 56) (dK D_Mo_takeStory 30 rfl) ?_
          refine g_iloadn (pc := 57) (i0 := 1) (j := 1) (dK D_Mo_takeStory 31 rfl) rfl rfl ?_
          refine vg_imul (pc := 58) (dK D_Mo_takeStory 32 rfl) ?_
          refine vg_iadd (pc := 59) (dK D_Mo_takeStory 33 rfl) ?_
          refine vg_iconst (pc := 60) (dK D_Mo_takeStory 34 rfl) ?_
          refine vg_iadd (pc := 61) (dK D_Mo_takeStory 35 rfl) ?_
          refine vg_iconst (pc := 62) (dK D_Mo_takeStory 36 rfl) ?_
          refine gdE h (fun hi10 h => ?_)
          refine nmE h (fun S11 e_S11 h => ?_)
          refine vg_iastore (pc := 63) (z := 0) (dK D_Mo_takeStory 37 rfl) (hw_11_0 hc0) rfl hi10 rfl e_S11 ?_
          refine vg_iconst (pc := 64) (dK D_Mo_takeStory 38 rfl) ?_
          exact vg_iretB (pc := 65) (b := true) (dK D_Mo_takeStory 39 rfl) rfl (leK rfl) (leK rfl) (fun _ => rfl) (by obtain rfl := Option.some.inj h; exact ⟨rfl, rfl⟩)
  · replace h := ifN h hc3
    refine vg_iconst (pc := 14) (dK D_Mo_takeStory 8 rfl) ?_
    refine g_goto (pc := 15) (tgt := 19) (dK D_Mo_takeStory 9 rfl) rfl ?_
    refine vg_iconst (pc := 19) (dK D_Mo_takeStory 11 rfl) ?_
    refine bnE h (fun p13 e_p13 h => ?_)
    refine vg_cV (pc := 20) (As := [V 1, V 1]) (rest := []) (mc' := 0) (ms' := 0) (dK D_Mo_takeStory 12 rfl) K_Mo_125 (fitK rfl) (ltK rfl) hc0 rfl (leK rfl) (leK rfl) (leK rfl) (tf_Mo_throwsIf hc0 (inRk rfl) (inRk rfl) e_p13) (kcB ?_)
    refine vg_ifB_ne (pc := 23) (b := p13.1) (t := 43) (dK D_Mo_takeStory 13 rfl) rfl (fun hc14 => ?_) (fun hc14 => ?_)
    · replace h := ifP h hc14
      refine vg_iconst (pc := 43) (dK D_Mo_takeStory 23 rfl) ?_
      exact vg_iretB (pc := 44) (b := false) (dK D_Mo_takeStory 24 rfl) rfl (leK rfl) (leK rfl) (fun _ => rfl) (by obtain rfl := Option.some.inj h; exact ⟨rfl, rfl⟩)
    · replace h := ifN h hc14
      refine g_aloadn (pc := 26) (i0 := 0) (j := 0) (dK D_Mo_takeStory 14 rfl) rfl rfl ?_
      refine g_iloadn (pc := 27) (i0 := 1) (j := 1) (dK D_Mo_takeStory 15 rfl) rfl rfl ?_
      refine vg_iconst (pc := 28) (dK D_Mo_takeStory 16 rfl) ?_
      refine bnE h (fun p15 e_p15 h => ?_)
      refine vg_cV (pc := 29) (As := [V a1, V 4]) (rest := []) (mc' := 0) (ms' := 0) (dK D_Mo_takeStory 17 rfl) K_Mo_85 (fitK rfl) (ltK rfl) hc0 rfl (leK rfl) (leK rfl) (leK rfl) (tf_Mo_ofStory hc0 ha1 (inRk rfl) e_p15) (kcI (fun h_p15 => ?_))
      refine vg_if_eq (pc := 32) (t := 43) (dK D_Mo_takeStory 18 rfl) rfl h_p15 (fun hc21 => ?_) (fun hc21 => ?_)
      · replace h := ifP h hc21
        refine vg_iconst (pc := 43) (dK D_Mo_takeStory 23 rfl) ?_
        exact vg_iretB (pc := 44) (b := false) (dK D_Mo_takeStory 24 rfl) rfl (leK rfl) (leK rfl) (fun _ => rfl) (by obtain rfl := Option.some.inj h; exact ⟨rfl, rfl⟩)
      · replace h := ifN h hc21
        refine g_aloadn (pc := 35) (i0 := 0) (j := 0) (dK D_Mo_takeStory 19 rfl) rfl rfl ?_
        refine g_iloadn (pc := 36) (i0 := 1) (j := 1) (dK D_Mo_takeStory 20 rfl) rfl rfl ?_
        refine bnE h (fun p16 e_p16 h => ?_)
        refine vg_cV (pc := 37) (As := [V a1]) (rest := []) (mc' := 0) (ms' := 0) (dK D_Mo_takeStory 21 rfl) K_Mo_214 (fitK rfl) (ltK rfl) hc0 rfl (leK rfl) (leK rfl) (leK rfl) (tf_Mo_isStoryPrinted hc0 ha1 e_p16) (kcB ?_)
        refine vg_ifB_eq (pc := 40) (b := p16) (t := 45) (dK D_Mo_takeStory 22 rfl) rfl (fun hc17 => ?_) (fun hc17 => ?_)
        · replace h := ifP h hc17
          refine vg_iconst (pc := 43) (dK D_Mo_takeStory 23 rfl) ?_
          exact vg_iretB (pc := 44) (b := false) (dK D_Mo_takeStory 24 rfl) rfl (leK rfl) (leK rfl) (fun _ => rfl) (by obtain rfl := Option.some.inj h; exact ⟨rfl, rfl⟩)
        · replace h := ifN h hc17
          refine g_aloadn (pc := 45) (i0 := 0) (j := 0) (dK D_Mo_takeStory 25 rfl) rfl rfl ?_
          refine bnE h (fun p18 e_p18 h => ?_)
          refine vg_cV (pc := 46) (As := []) (rest := []) (mc' := 0) (ms' := 0) (dK D_Mo_takeStory 26 rfl) K_Mo_159 (fitK rfl) (ltK rfl) hc0 rfl (leK rfl) (leK rfl) (leK rfl) (tf_Mo_record hc0 e_p18) (kcU ?_)
          refine g_aloadn (pc := 49) (i0 := 0) (j := 0) (dK D_Mo_takeStory 27 rfl) rfl rfl ?_
          refine vg_getA (pc := 50) (ci := 11) (f := 0) (dK D_Mo_takeStory 28 rfl) q_1442 hc0 (ltK rfl) (ltK rfl) rfl ?_
          refine vg_sipush (pc := 53) (dK D_Mo_takeStory 29 rfl) rfl ?_
          refine vg_iconst (pc := 56) (dK D_Mo_takeStory 30 rfl) ?_
          refine g_iloadn (pc := 57) (i0 := 1) (j := 1) (dK D_Mo_takeStory 31 rfl) rfl rfl ?_
          refine vg_imul (pc := 58) (dK D_Mo_takeStory 32 rfl) ?_
          refine vg_iadd (pc := 59) (dK D_Mo_takeStory 33 rfl) ?_
          refine vg_iconst (pc := 60) (dK D_Mo_takeStory 34 rfl) ?_
          refine vg_iadd (pc := 61) (dK D_Mo_takeStory 35 rfl) ?_
          refine vg_iconst (pc := 62) (dK D_Mo_takeStory 36 rfl) ?_
          refine gdE h (fun hi19 h => ?_)
          refine nmE h (fun S20 e_S20 h => ?_)
          refine vg_iastore (pc := 63) (z := 0) (dK D_Mo_takeStory 37 rfl) (hw_11_0 hc0) rfl hi19 rfl e_S20 ?_
          refine vg_iconst (pc := 64) (dK D_Mo_takeStory 38 rfl) ?_
          exact vg_iretB (pc := 65) (b := true) (dK D_Mo_takeStory 39 rfl) rfl (leK rfl) (leK rfl) (fun _ => rfl) (by obtain rfl := Option.some.inj h; exact ⟨rfl, rfl⟩)
def fn_Mo_setStandby (c0 : Nat) (a1 : Int) (a2 : Int) (S : St) : Option (St) := if 0 ≤ ((359 + (2 * a1)) + 1) ∧ ((359 + (2 * a1)) + 1) < 8740 then (nm (u S (tgt c0 0) ((((359 + (2 * a1)) + 1)).toNat) a2) fun S2 => some S2) else none
theorem tf_Mo_setStandby {E : EV} {X : XT} {c0 : Nat} (hc0 : HC X 11 c0) {a1 : Int} (ha1 : inR a1) {a2 : Int} (ha2 : inR a2) {S : St} {q : St} (h : fn_Mo_setStandby c0 a1 a2 S = some q) : Ev E M_Mo_setStandby [.ref c0, V a1, V a2] (WX X S) 0 0 (KU X q) := by
  refine Ev.of pn_Mo rfl (leK rfl) ?_
  show Go E M_Mo_setStandby 0 0 0 [(0, .ref c0), (1, V a1), (2, V a2)] [] (WX X S) 0 0 (KU X q)
  unfold fn_Mo_setStandby at h
  refine g_aloadn (pc := 0) (i0 := 0) (j := 0) (dK D_Mo_setStandby 0 rfl) rfl rfl ?_
  refine vg_getA (pc := 1) (ci := 11) (f := 0) (dK D_Mo_setStandby 1 rfl) q_1442 hc0 (ltK rfl) (ltK rfl) rfl ?_
  refine vg_sipush (pc := 4) (dK D_Mo_setStandby 2 rfl) rfl ?_
  refine vg_iconst (pc := 7) (dK D_Mo_setStandby 3 rfl) ?_
  refine g_iloadn (pc := 8) (i0 := 1) (j := 1) (dK D_Mo_setStandby 4 rfl) rfl rfl ?_
  refine vg_imul (pc := 9) (dK D_Mo_setStandby 5 rfl) ?_
  refine vg_iadd (pc := 10) (dK D_Mo_setStandby 6 rfl) ?_
  refine vg_iconst (pc := 11) (dK D_Mo_setStandby 7 rfl) ?_
  refine vg_iadd (pc := 12) (dK D_Mo_setStandby 8 rfl) ?_
  refine g_iloadn (pc := 13) (i0 := 2) (j := 2) (dK D_Mo_setStandby 9 rfl) rfl rfl ?_
  refine gdE h (fun hi1 h => ?_)
  refine nmE h (fun S2 e_S2 h => ?_)
  refine vg_iastore (pc := 14) (z := a2) (dK D_Mo_setStandby 10 rfl) (hw_11_0 hc0) rfl hi1 rfl e_S2 ?_
  exact g_return (pc := 15) (dK D_Mo_setStandby 11 rfl) rfl (leK rfl) (leK rfl) (fun _ => rfl) (by obtain rfl := Option.some.inj h; exact ⟨rfl, rfl⟩)
def jf_Mo_use_19 (c0 : Nat) (a1 : Int) (a2 : Int) (t0 : Int) (d1 : Nat) (S : St) : Option (Int × St) := bnO (fn_Mo_throwsIf d1 t0 1 S) fun p4 => if p4.1 = true then (some (0, p4.2)) else (bnO (fn_Mo_isPage c0 a2 p4.2) fun p6 => if p6 = true then (bnO (fn_Mo_isPrinted c0 a2 p4.2) fun p8 => if p8 = true then (some (2, p4.2)) else (bnO (fn_Mo_ofStandby c0 a1 1 p4.2) fun p10 => if p10 ≤ 0 then (bnO (fn_Mo_leftOn c0 a2 (-1) a1 p4.2) fun p11 => bnO (fn_Mo_ofStandby c0 a1 0 p4.2) fun p12 => if p12 ≤ p11 then (bnO (fn_Mo_record c0 p4.2) fun p13 => bnO (fn_Mo_setStandby c0 a1 a2 p13) fun p14 => some (0, p14)) else (some (3, p4.2))) else (bnO (fn_Mo_ofStandby c0 a1 1 p4.2) fun p16 => bnO (fn_Mo_isPrinted c0 p16 p4.2) fun p17 => if p17 = true then (some (2, p4.2)) else (bnO (fn_Mo_leftOn c0 a2 (-1) a1 p4.2) fun p19 => bnO (fn_Mo_ofStandby c0 a1 0 p4.2) fun p20 => if p20 ≤ p19 then (bnO (fn_Mo_record c0 p4.2) fun p21 => bnO (fn_Mo_setStandby c0 a1 a2 p21) fun p22 => some (0, p22)) else (some (3, p4.2)))))) else (some (1, p4.2)))
theorem tj_Mo_use_19 {E : EV} {X : XT} {c0 : Nat} (hc0 : HC X 11 c0) {a1 : Int} (ha1 : inR a1) {a2 : Int} (ha2 : inR a2) {t0 : Int} (ht0 : inR t0) {d1 : Nat} (hd1 : HC X 11 d1) {S : St} {q : Int × St} (h : jf_Mo_use_19 c0 a1 a2 t0 d1 S = some q) : Go E M_Mo_use 0 0 19 [(0, .ref c0), (1, V a1), (2, V a2)] [V t0, .ref d1] (WX X S) 0 0 (KI X q.1 q.2) := by
  unfold jf_Mo_use_19 at h
  refine vg_iconst (pc := 19) (dK D_Mo_use_0 11 rfl) ?_
  refine bnE h (fun p4 e_p4 h => ?_)
  refine vg_cV (pc := 20) (As := [V t0, V 1]) (rest := []) (mc' := 0) (ms' := 0) (dK D_Mo_use_0 12 rfl) K_Mo_125 (fitK rfl) (ltK rfl) hd1 rfl (leK rfl) (leK rfl) (leK rfl) (tf_Mo_throwsIf hd1 ht0 (inRk rfl) e_p4) (kcB ?_)
  refine vg_ifB_eq (pc := 23) (b := p4.1) (t := 28) (dK D_Mo_use_0 13 rfl) rfl (fun hc5 => ?_) (fun hc5 => ?_)
  · replace h := ifP h hc5
    refine vg_iconst (pc := 26) (dK D_Mo_use_0 14 rfl) ?_
    exact vg_iretI (pc := 27) (r := 0) (dK D_Mo_use_0 15 rfl) rfl (leK rfl) (leK rfl) (fun _ => rfl) (by obtain rfl := Option.some.inj h; exact ⟨rfl, (inRk rfl), rfl⟩)
  · replace h := ifN h hc5
    refine g_aloadn (pc := 28) (i0 := 0) (j := 0) (dK D_Mo_use_0 16 rfl) rfl rfl ?_
    refine g_iloadn (pc := 29) (i0 := 2) (j := 2) (dK D_Mo_use_0 17 rfl) rfl rfl ?_
    refine bnE h (fun p6 e_p6 h => ?_)
    refine vg_cV (pc := 30) (As := [V a2]) (rest := []) (mc' := 0) (ms' := 0) (dK D_Mo_use_0 18 rfl) K_Mo_105 (fitK rfl) (ltK rfl) hc0 rfl (leK rfl) (leK rfl) (leK rfl) (tf_Mo_isPage hc0 ha2 e_p6) (kcB ?_)
    refine vg_ifB_ne (pc := 33) (b := p6) (t := 38) (dK D_Mo_use_0 19 rfl) rfl (fun hc7 => ?_) (fun hc7 => ?_)
    · replace h := ifP h hc7
      refine g_aloadn (pc := 38) (i0 := 0) (j := 0) (dK D_Mo_use_0 22 rfl) rfl rfl ?_
      refine g_iloadn (pc := 39) (i0 := 2) (j := 2) (dK D_Mo_use_0 23 rfl) rfl rfl ?_
      refine bnE h (fun p8 e_p8 h => ?_)
      refine vg_cV (pc := 40) (As := [V a2]) (rest := []) (mc' := 0) (ms' := 0) (dK D_Mo_use_0 24 rfl) K_Mo_109 (fitK rfl) (ltK rfl) hc0 rfl (leK rfl) (leK rfl) (leK rfl) (tf_Mo_isPrinted hc0 ha2 e_p8) (kcB ?_)
      refine vg_ifB_ne (pc := 43) (b := p8) (t := 68) (dK D_Mo_use_0 25 rfl) rfl (fun hc9 => ?_) (fun hc9 => ?_)
      · replace h := ifP h hc9
        refine vg_iconst (pc := 68) (dK D_Mo_use_0 38 rfl) ?_
        exact vg_iretI (pc := 69) (r := 2) (dK D_Mo_use_0 39 rfl) rfl (leK rfl) (leK rfl) (fun _ => rfl) (by obtain rfl := Option.some.inj h; exact ⟨rfl, (inRk rfl), rfl⟩)
      · replace h := ifN h hc9
        refine g_aloadn (pc := 46) (i0 := 0) (j := 0) (dK D_Mo_use_0 26 rfl) rfl rfl ?_
        refine g_iloadn (pc := 47) (i0 := 1) (j := 1) (dK D_Mo_use_0 27 rfl) rfl rfl ?_
        refine vg_iconst (pc := 48) (dK D_Mo_use_0 28 rfl) ?_
        refine bnE h (fun p10 e_p10 h => ?_)
        refine vg_cV (pc := 49) (As := [V a1, V 1]) (rest := []) (mc' := 0) (ms' := 0) (dK D_Mo_use_0 29 rfl) K_Mo_92 (fitK rfl) (ltK rfl) hc0 rfl (leK rfl) (leK rfl) (leK rfl) (tf_Mo_ofStandby hc0 ha1 (inRk rfl) e_p10) (kcI (fun h_p10 => ?_))
        refine vg_if_le (pc := 52) (t := 70) (dK D_Mo_use_0 30 rfl) rfl h_p10 (fun hc24 => ?_) (fun hc24 => ?_)
        · replace h := ifP h hc24
          refine g_aloadn (pc := 70) (i0 := 0) (j := 0) (dK D_Mo_use_0 40 rfl) rfl rfl ?_
          refine g_iloadn (pc := 71) (i0 := 2) (j := 2) (dK D_Mo_use_0 41 rfl) rfl rfl ?_
          refine vg_iconst (pc := 72) (dK D_Mo_use_0 42 rfl) ?_
          refine g_iloadn (pc := 73) (i0 := 1) (j := 1) (dK D_Mo_use_0 43 rfl) rfl rfl ?_
          refine bnE h (fun p11 e_p11 h => ?_)
          refine vg_cV (pc := 74) (As := [V a2, V (-1), V a1]) (rest := []) (mc' := 0) (ms' := 0) (dK D_Mo_use_0 44 rfl) K_Mo_102 (fitK rfl) (ltK rfl) hc0 rfl (leK rfl) (leK rfl) (leK rfl) (tf_Mo_leftOn hc0 ha2 (inRk rfl) ha1 e_p11) (kcI (fun h_p11 => ?_))
          refine g_aloadn (pc := 77) (i0 := 0) (j := 0) (dK D_Mo_use_0 45 rfl) rfl rfl ?_
          refine g_iloadn (pc := 78) (i0 := 1) (j := 1) (dK D_Mo_use_0 46 rfl) rfl rfl ?_
          refine vg_iconst (pc := 79) (dK D_Mo_use_0 47 rfl) ?_
          refine bnE h (fun p12 e_p12 h => ?_)
          refine vg_cV (pc := 80) (As := [V a1, V 0]) (rest := [V p11]) (mc' := 0) (ms' := 0) (dK D_Mo_use_0 48 rfl) K_Mo_92 (fitK rfl) (ltK rfl) hc0 rfl (leK rfl) (leK rfl) (leK rfl) (tf_Mo_ofStandby hc0 ha1 (inRk rfl) e_p12) (kcI (fun h_p12 => ?_))
          refine vg_icmp_ge (pc := 83) (t := 88) (dK D_Mo_use_0 49 rfl) rfl h_p11 h_p12 (fun hc15 => ?_) (fun hc15 => ?_)
          · replace h := ifP h hc15
            refine g_aloadn (pc := 88) (i0 := 0) (j := 0) (dK D_Mo_use_1 2 rfl) rfl rfl ?_
            refine bnE h (fun p13 e_p13 h => ?_)
            refine vg_cV (pc := 89) (As := []) (rest := []) (mc' := 0) (ms' := 0) (dK D_Mo_use_1 3 rfl) K_Mo_159 (fitK rfl) (ltK rfl) hc0 rfl (leK rfl) (leK rfl) (leK rfl) (tf_Mo_record hc0 e_p13) (kcU ?_)
            refine g_aloadn (pc := 92) (i0 := 0) (j := 0) (dK D_Mo_use_1 4 rfl) rfl rfl ?_
            refine g_iloadn (pc := 93) (i0 := 1) (j := 1) (dK D_Mo_use_1 5 rfl) rfl rfl ?_
            refine g_iloadn (pc := 94) (i0 := 2) (j := 2) (dK D_Mo_use_1 6 rfl) rfl rfl ?_
            refine bnE h (fun p14 e_p14 h => ?_)
            refine vg_cV (pc := 95) (As := [V a1, V a2]) (rest := []) (mc' := 0) (ms' := 0) (dK D_Mo_use_1 7 rfl) K_Mo_217 (fitK rfl) (ltK rfl) hc0 rfl (leK rfl) (leK rfl) (leK rfl) (tf_Mo_setStandby hc0 ha1 ha2 e_p14) (kcU ?_)
            refine vg_iconst (pc := 98) (dK D_Mo_use_1 8 rfl) ?_
            exact vg_iretI (pc := 99) (r := 0) (dK D_Mo_use_1 9 rfl) rfl (leK rfl) (leK rfl) (fun _ => rfl) (by obtain rfl := Option.some.inj h; exact ⟨rfl, (inRk rfl), rfl⟩)
          · replace h := ifN h hc15
            refine vg_iconst (pc := 86) (dK D_Mo_use_1 0 rfl) ?_
            exact vg_iretI (pc := 87) (r := 3) (dK D_Mo_use_1 1 rfl) rfl (leK rfl) (leK rfl) (fun _ => rfl) (by obtain rfl := Option.some.inj h; exact ⟨rfl, (inRk rfl), rfl⟩)
        · replace h := ifN h hc24
          refine g_aloadn (pc := 55) (i0 := 0) (j := 0) (dK D_Mo_use_0 31 rfl) rfl rfl ?_
          refine g_aloadn (pc := 56) (i0 := 0) (j := 0) (dK D_Mo_use_0 32 rfl) rfl rfl ?_
          refine g_iloadn (pc := 57) (i0 := 1) (j := 1) (dK D_Mo_use_0 33 rfl) rfl rfl ?_
          refine vg_iconst (pc := 58) (dK D_Mo_use_0 34 rfl) ?_
          refine bnE h (fun p16 e_p16 h => ?_)
          refine vg_cV (pc := 59) (As := [V a1, V 1]) (rest := [.ref c0]) (mc' := 0) (ms' := 0) (dK D_Mo_use_0 35 rfl) K_Mo_92 (fitK rfl) (ltK rfl) hc0 rfl (leK rfl) (leK rfl) (leK rfl) (tf_Mo_ofStandby hc0 ha1 (inRk rfl) e_p16) (kcI (fun h_p16 => ?_))
          refine bnE h (fun p17 e_p17 h => ?_)
          refine vg_cV (pc := 62) (As := [V p16]) (rest := []) (mc' := 0) (ms' := 0) (dK D_Mo_use_0 36 rfl) K_Mo_109 (fitK rfl) (ltK rfl) hc0 rfl (leK rfl) (leK rfl) (leK rfl) (tf_Mo_isPrinted hc0 h_p16 e_p17) (kcB ?_)
          refine vg_ifB_eq (pc := 65) (b := p17) (t := 70) (dK D_Mo_use_0 37 rfl) rfl (fun hc18 => ?_) (fun hc18 => ?_)
          · replace h := ifP h hc18
            refine vg_iconst (pc := 68) (dK D_Mo_use_0 38 rfl) ?_
            exact vg_iretI (pc := 69) (r := 2) (dK D_Mo_use_0 39 rfl) rfl (leK rfl) (leK rfl) (fun _ => rfl) (by obtain rfl := Option.some.inj h; exact ⟨rfl, (inRk rfl), rfl⟩)
          · replace h := ifN h hc18
            refine g_aloadn (pc := 70) (i0 := 0) (j := 0) (dK D_Mo_use_0 40 rfl) rfl rfl ?_
            refine g_iloadn (pc := 71) (i0 := 2) (j := 2) (dK D_Mo_use_0 41 rfl) rfl rfl ?_
            refine vg_iconst (pc := 72) (dK D_Mo_use_0 42 rfl) ?_
            refine g_iloadn (pc := 73) (i0 := 1) (j := 1) (dK D_Mo_use_0 43 rfl) rfl rfl ?_
            refine bnE h (fun p19 e_p19 h => ?_)
            refine vg_cV (pc := 74) (As := [V a2, V (-1), V a1]) (rest := []) (mc' := 0) (ms' := 0) (dK D_Mo_use_0 44 rfl) K_Mo_102 (fitK rfl) (ltK rfl) hc0 rfl (leK rfl) (leK rfl) (leK rfl) (tf_Mo_leftOn hc0 ha2 (inRk rfl) ha1 e_p19) (kcI (fun h_p19 => ?_))
            refine g_aloadn (pc := 77) (i0 := 0) (j := 0) (dK D_Mo_use_0 45 rfl) rfl rfl ?_
            refine g_iloadn (pc := 78) (i0 := 1) (j := 1) (dK D_Mo_use_0 46 rfl) rfl rfl ?_
            refine vg_iconst (pc := 79) (dK D_Mo_use_0 47 rfl) ?_
            refine bnE h (fun p20 e_p20 h => ?_)
            refine vg_cV (pc := 80) (As := [V a1, V 0]) (rest := [V p19]) (mc' := 0) (ms' := 0) (dK D_Mo_use_0 48 rfl) K_Mo_92 (fitK rfl) (ltK rfl) hc0 rfl (leK rfl) (leK rfl) (leK rfl) (tf_Mo_ofStandby hc0 ha1 (inRk rfl) e_p20) (kcI (fun h_p20 => ?_))
            refine vg_icmp_ge (pc := 83) (t := 88) (dK D_Mo_use_0 49 rfl) rfl h_p19 h_p20 (fun hc23 => ?_) (fun hc23 => ?_)
            · replace h := ifP h hc23
              refine g_aloadn (pc := 88) (i0 := 0) (j := 0) (dK D_Mo_use_1 2 rfl) rfl rfl ?_
              refine bnE h (fun p21 e_p21 h => ?_)
              refine vg_cV (pc := 89) (As := []) (rest := []) (mc' := 0) (ms' := 0) (dK D_Mo_use_1 3 rfl) K_Mo_159 (fitK rfl) (ltK rfl) hc0 rfl (leK rfl) (leK rfl) (leK rfl) (tf_Mo_record hc0 e_p21) (kcU ?_)
              refine g_aloadn (pc := 92) (i0 := 0) (j := 0) (dK D_Mo_use_1 4 rfl) rfl rfl ?_
              refine g_iloadn (pc := 93) (i0 := 1) (j := 1) (dK D_Mo_use_1 5 rfl) rfl rfl ?_
              refine g_iloadn (pc := 94) (i0 := 2) (j := 2) (dK D_Mo_use_1 6 rfl) rfl rfl ?_
              refine bnE h (fun p22 e_p22 h => ?_)
              refine vg_cV (pc := 95) (As := [V a1, V a2]) (rest := []) (mc' := 0) (ms' := 0) (dK D_Mo_use_1 7 rfl) K_Mo_217 (fitK rfl) (ltK rfl) hc0 rfl (leK rfl) (leK rfl) (leK rfl) (tf_Mo_setStandby hc0 ha1 ha2 e_p22) (kcU ?_)
              refine vg_iconst (pc := 98) (dK D_Mo_use_1 8 rfl) ?_
              exact vg_iretI (pc := 99) (r := 0) (dK D_Mo_use_1 9 rfl) rfl (leK rfl) (leK rfl) (fun _ => rfl) (by obtain rfl := Option.some.inj h; exact ⟨rfl, (inRk rfl), rfl⟩)
            · replace h := ifN h hc23
              refine vg_iconst (pc := 86) (dK D_Mo_use_1 0 rfl) ?_
              exact vg_iretI (pc := 87) (r := 3) (dK D_Mo_use_1 1 rfl) rfl (leK rfl) (leK rfl) (fun _ => rfl) (by obtain rfl := Option.some.inj h; exact ⟨rfl, (inRk rfl), rfl⟩)
    · replace h := ifN h hc7
      refine vg_iconst (pc := 36) (dK D_Mo_use_0 20 rfl) ?_
      exact vg_iretI (pc := 37) (r := 1) (dK D_Mo_use_0 21 rfl) rfl (leK rfl) (leK rfl) (fun _ => rfl) (by obtain rfl := Option.some.inj h; exact ⟨rfl, (inRk rfl), rfl⟩)
def fn_Mo_use (c0 : Nat) (a1 : Int) (a2 : Int) (S : St) : Option (Int × St) := nm (u S c0 4 0) fun S1 => bnO (fn_Mo_isStandby c0 a1 S1) fun p2 => if p2 = true then (jf_Mo_use_19 c0 a1 a2 0 c0 S1) else (jf_Mo_use_19 c0 a1 a2 1 c0 S1)
theorem tf_Mo_use {E : EV} {X : XT} {c0 : Nat} (hc0 : HC X 11 c0) {a1 : Int} (ha1 : inR a1) {a2 : Int} (ha2 : inR a2) {S : St} {q : Int × St} (h : fn_Mo_use c0 a1 a2 S = some q) : Ev E M_Mo_use [.ref c0, V a1, V a2] (WX X S) 0 0 (KI X q.1 q.2) := by
  refine Ev.of pn_Mo rfl (leK rfl) ?_
  show Go E M_Mo_use 0 0 0 [(0, .ref c0), (1, V a1), (2, V a2)] [] (WX X S) 0 0 (KI X q.1 q.2)
  unfold fn_Mo_use at h
  refine g_aloadn (pc := 0) (i0 := 0) (j := 0) (dK D_Mo_use_0 0 rfl) rfl rfl ?_
  refine vg_iconst (pc := 1) (dK D_Mo_use_0 1 rfl) ?_
  refine nmE h (fun S1 e_S1 h => ?_)
  refine vg_putI (pc := 2) (ci := 11) (f := 4) (z := 0) (dK D_Mo_use_0 2 rfl) q_1446 hc0 (ltK rfl) (ltK rfl) rfl rfl e_S1 ?_
  refine g_aloadn (pc := 5) (i0 := 0) (j := 0) (dK D_Mo_use_0 3 rfl) rfl rfl ?_
  refine g_aloadn (pc := 6) (i0 := 0) (j := 0) (dK D_Mo_use_0 4 rfl) rfl rfl ?_
  refine g_iloadn (pc := 7) (i0 := 1) (j := 1) (dK D_Mo_use_0 5 rfl) rfl rfl ?_
  refine bnE h (fun p2 e_p2 h => ?_)
  refine vg_cV (pc := 8) (As := [V a1]) (rest := [.ref c0]) (mc' := 0) (ms' := 0) (dK D_Mo_use_0 6 rfl) K_Mo_181 (fitK rfl) (ltK rfl) hc0 rfl (leK rfl) (leK rfl) (leK rfl) (tf_Mo_isStandby hc0 ha1 e_p2) (kcB ?_)
  refine vg_ifB_ne (pc := 11) (b := p2) (t := 18) (dK D_Mo_use_0 7 rfl) rfl (fun hc3 => ?_) (fun hc3 => ?_)
  · replace h := ifP h hc3
    refine vg_iconst (pc := 18) (dK D_Mo_use_0 10 rfl) ?_
    exact tj_Mo_use_19 hc0 ha1 ha2 (inRk rfl) hc0 h
  · replace h := ifN h hc3
    refine vg_iconst (pc := 14) (dK D_Mo_use_0 8 rfl) ?_
    refine g_goto (pc := 15) (tgt := 19) (dK D_Mo_use_0 9 rfl) rfl ?_
    exact tj_Mo_use_19 hc0 ha1 ha2 (inRk rfl) hc0 h
def lb_Mo_clear_61 (c0 : Nat) (a1 : Int) (a2 : Int) (go : Int × St → Option (St)) (a3 : Int) (S : St) : Option (St) := if (g S (tgt c0 0) 1) ≤ a3 then (some S) else (bnO (fn_Mo_ofAd c0 a3 6 S) fun p12 => if p12 = a1 then (bnO (fn_Mo_setOfAd c0 a3 6 0 S) fun p14 => nm (wr (a3 + 1)) fun v15 => go (v15, p14)) else (nm (wr (a3 + 1)) fun v13 => go (v13, S)))
def lo_Mo_clear_61 (c0 : Nat) (a1 : Int) (a2 : Int) : Nat → Int × St → Option (St) := lp fun go p => lb_Mo_clear_61 c0 a1 a2 go p.1 p.2
theorem tl_Mo_clear_61 {E : EV} {X : XT} {c0 : Nat} (hc0 : HC X 11 c0) {a1 : Int} (ha1 : inR a1) {a2 : Int} (ha2 : inR a2) {K : RK → PS → Prop} {q : St} (hx : Go E M_Mo_clear 0 0 96 [(0, .ref c0), (1, V a1), (2, V a2)] [] (WX X q) 0 0 K) : ∀ n a, lo_Mo_clear_61 c0 a1 a2 n a = some q → inR a.1 → Go E M_Mo_clear 0 0 61 [(0, .ref c0), (1, V a1), (2, V a2), (3, V a.1)] [] (WX X a.2) 0 0 K := by
  refine lp_ind (P := fun a : Int × St => inR a.1 → Go E M_Mo_clear 0 0 61 [(0, .ref c0), (1, V a1), (2, V a2), (3, V a.1)] [] (WX X a.2) 0 0 K) (fun go ih a h => ?_)
  obtain ⟨a3, S⟩ := a
  intro ha3
  show Go E M_Mo_clear 0 0 61 [(0, .ref c0), (1, V a1), (2, V a2), (3, V a3)] [] (WX X S) 0 0 K
  replace h : lb_Mo_clear_61 c0 a1 a2 go a3 S = some q := h
  unfold lb_Mo_clear_61 at h
  refine g_iloadn (pc := 61) (i0 := 3) (j := 3) (dK D_Mo_clear_0 36 rfl) rfl rfl ?_
  refine g_aloadn (pc := 62) (i0 := 0) (j := 0) (dK D_Mo_clear_0 37 rfl) rfl rfl ?_
  refine vg_getA (pc := 63) (ci := 11) (f := 0) (dK D_Mo_clear_0 38 rfl) q_1442 hc0 (ltK rfl) (ltK rfl) rfl ?_
  refine vg_iconst (pc := 66) (dK D_Mo_clear_0 39 rfl) ?_
  refine vg_iaload (pc := 67) (j := 1) (dK D_Mo_clear_0 40 rfl) (hw_11_0 hc0) rfl ⟨by decide, by decide⟩ rfl ?_
  refine vg_icmp_ge (pc := 68) (t := 96) (dK D_Mo_clear_0 41 rfl) rfl ha3 (g_in _ _ _) (fun hc17 => ?_) (fun hc17 => ?_)
  · replace h := ifP h hc17
    obtain rfl := Option.some.inj h
    refine gL_weak (ls' := [(0, .ref c0), (1, V a1), (2, V a2)]) (sbc 0 rfl (sbc 1 rfl (sbc 2 rfl sbn))) ?_
    exact hx 
  · replace h := ifN h hc17
    refine g_aloadn (pc := 71) (i0 := 0) (j := 0) (dK D_Mo_clear_0 42 rfl) rfl rfl ?_
    refine g_iloadn (pc := 72) (i0 := 3) (j := 3) (dK D_Mo_clear_0 43 rfl) rfl rfl ?_
    refine vg_bipush (pc := 73) (dK D_Mo_clear_0 44 rfl) rfl ?_
    refine bnE h (fun p12 e_p12 h => ?_)
    refine vg_cV (pc := 75) (As := [V a3, V 6]) (rest := []) (mc' := 0) (ms' := 0) (dK D_Mo_clear_0 45 rfl) K_Mo_82 (fitK rfl) (ltK rfl) hc0 rfl (leK rfl) (leK rfl) (leK rfl) (tf_Mo_ofAd hc0 ha3 (inRk rfl) e_p12) (kcI (fun h_p12 => ?_))
    refine g_iloadn (pc := 78) (i0 := 1) (j := 1) (dK D_Mo_clear_0 46 rfl) rfl rfl ?_
    refine vg_icmp_ne (pc := 79) (t := 90) (dK D_Mo_clear_0 47 rfl) rfl h_p12 ha1 (fun hc16 => ?_) (fun hc16 => ?_)
    · replace h := ifN h hc16
      refine nmE h (fun v13 e_v13 h => ?_)
      refine vg_iinc (pc := 90) (j := 3) (a := a3) (z := 1) (ls2 := [(3, V v13), (0, .ref c0), (1, V a1), (2, V a2)]) (dK D_Mo_clear_1 3 rfl) rfl e_v13 (ltK rfl) rfl ?_
      refine g_goto (pc := 93) (tgt := 61) (dK D_Mo_clear_1 4 rfl) rfl ?_
      refine gL_weak (ls' := [(0, .ref c0), (1, V a1), (2, V a2), (3, V v13)]) (sbc 1 rfl (sbc 2 rfl (sbc 3 rfl (sbc 0 rfl sbn)))) ?_
      replace h := ih _ h
      exact h (Vn_in e_v13)
    · replace h := ifP h hc16
      refine g_aloadn (pc := 82) (i0 := 0) (j := 0) (dK D_Mo_clear_0 48 rfl) rfl rfl ?_
      refine g_iloadn (pc := 83) (i0 := 3) (j := 3) (dK D_Mo_clear_0 49 rfl) rfl rfl ?_
      refine vg_bipush (pc := 84) (dK D_Mo_clear_1 0 rfl) rfl ?_
      refine vg_iconst (pc := 86) (dK D_Mo_clear_1 1 rfl) ?_
      refine bnE h (fun p14 e_p14 h => ?_)
      refine vg_cV (pc := 87) (As := [V a3, V 6, V 0]) (rest := []) (mc' := 0) (ms' := 0) (dK D_Mo_clear_1 2 rfl) K_Mo_162 (fitK rfl) (ltK rfl) hc0 rfl (leK rfl) (leK rfl) (leK rfl) (tf_Mo_setOfAd hc0 ha3 (inRk rfl) (inRk rfl) e_p14) (kcU ?_)
      refine nmE h (fun v15 e_v15 h => ?_)
      refine vg_iinc (pc := 90) (j := 3) (a := a3) (z := 1) (ls2 := [(3, V v15), (0, .ref c0), (1, V a1), (2, V a2)]) (dK D_Mo_clear_1 3 rfl) rfl e_v15 (ltK rfl) rfl ?_
      refine g_goto (pc := 93) (tgt := 61) (dK D_Mo_clear_1 4 rfl) rfl ?_
      refine gL_weak (ls' := [(0, .ref c0), (1, V a1), (2, V a2), (3, V v15)]) (sbc 1 rfl (sbc 2 rfl (sbc 3 rfl (sbc 0 rfl sbn)))) ?_
      replace h := ih _ h
      exact h (Vn_in e_v15)
def lb_Mo_clear_98 (c0 : Nat) (a1 : Int) (a2 : Int) (go : Int × St → Option (St)) (a3 : Int) (S : St) : Option (St) := if (g S (tgt c0 0) 3) ≤ a3 then (some S) else (bnO (fn_Mo_ofStandby c0 a3 1 S) fun p19 => if p19 = a1 then (bnO (fn_Mo_setStandby c0 a3 0 S) fun p21 => nm (wr (a3 + 1)) fun v22 => go (v22, p21)) else (nm (wr (a3 + 1)) fun v20 => go (v20, S)))
def lo_Mo_clear_98 (c0 : Nat) (a1 : Int) (a2 : Int) : Nat → Int × St → Option (St) := lp fun go p => lb_Mo_clear_98 c0 a1 a2 go p.1 p.2
theorem tl_Mo_clear_98 {E : EV} {X : XT} {c0 : Nat} (hc0 : HC X 11 c0) {a1 : Int} (ha1 : inR a1) {a2 : Int} (ha2 : inR a2) {K : RK → PS → Prop} {q : St} (hx : Go E M_Mo_clear 0 0 130 [(2, V a2)] [] (WX X q) 0 0 K) : ∀ n a, lo_Mo_clear_98 c0 a1 a2 n a = some q → inR a.1 → Go E M_Mo_clear 0 0 98 [(0, .ref c0), (1, V a1), (2, V a2), (3, V a.1)] [] (WX X a.2) 0 0 K := by
  refine lp_ind (P := fun a : Int × St => inR a.1 → Go E M_Mo_clear 0 0 98 [(0, .ref c0), (1, V a1), (2, V a2), (3, V a.1)] [] (WX X a.2) 0 0 K) (fun go ih a h => ?_)
  obtain ⟨a3, S⟩ := a
  intro ha3
  show Go E M_Mo_clear 0 0 98 [(0, .ref c0), (1, V a1), (2, V a2), (3, V a3)] [] (WX X S) 0 0 K
  replace h : lb_Mo_clear_98 c0 a1 a2 go a3 S = some q := h
  unfold lb_Mo_clear_98 at h
  refine g_iloadn (pc := 98) (i0 := 3) (j := 3) (dK D_Mo_clear_1 7 rfl) rfl rfl ?_
  refine g_aloadn (pc := 99) (i0 := 0) (j := 0) (dK D_Mo_clear_1 8 rfl) rfl rfl ?_
  refine vg_getA (pc := 100) (ci := 11) (f := 0) (dK D_Mo_clear_1 9 rfl) q_1442 hc0 (ltK rfl) (ltK rfl) rfl ?_
  refine vg_iconst (pc := 103) (dK D_Mo_clear_1 10 rfl) ?_
  refine vg_iaload (pc := 104) (j := 3) (dK D_Mo_clear_1 11 rfl) (hw_11_0 hc0) rfl ⟨by decide, by decide⟩ rfl ?_
  refine vg_icmp_ge (pc := 105) (t := 130) (dK D_Mo_clear_1 12 rfl) rfl ha3 (g_in _ _ _) (fun hc24 => ?_) (fun hc24 => ?_)
  · replace h := ifP h hc24
    obtain rfl := Option.some.inj h
    refine gL_weak (ls' := [(2, V a2)]) (sbc 2 rfl sbn) ?_
    exact hx 
  · replace h := ifN h hc24
    refine g_aloadn (pc := 108) (i0 := 0) (j := 0) (dK D_Mo_clear_1 13 rfl) rfl rfl ?_
    refine g_iloadn (pc := 109) (i0 := 3) (j := 3) (dK D_Mo_clear_1 14 rfl) rfl rfl ?_
    refine vg_iconst (pc := 110) (dK D_Mo_clear_1 15 rfl) ?_
    refine bnE h (fun p19 e_p19 h => ?_)
    refine vg_cV (pc := 111) (As := [V a3, V 1]) (rest := []) (mc' := 0) (ms' := 0) (dK D_Mo_clear_1 16 rfl) K_Mo_92 (fitK rfl) (ltK rfl) hc0 rfl (leK rfl) (leK rfl) (leK rfl) (tf_Mo_ofStandby hc0 ha3 (inRk rfl) e_p19) (kcI (fun h_p19 => ?_))
    refine g_iloadn (pc := 114) (i0 := 1) (j := 1) (dK D_Mo_clear_1 17 rfl) rfl rfl ?_
    refine vg_icmp_ne (pc := 115) (t := 124) (dK D_Mo_clear_1 18 rfl) rfl h_p19 ha1 (fun hc23 => ?_) (fun hc23 => ?_)
    · replace h := ifN h hc23
      refine nmE h (fun v20 e_v20 h => ?_)
      refine vg_iinc (pc := 124) (j := 3) (a := a3) (z := 1) (ls2 := [(3, V v20), (0, .ref c0), (1, V a1), (2, V a2)]) (dK D_Mo_clear_1 23 rfl) rfl e_v20 (ltK rfl) rfl ?_
      refine g_goto (pc := 127) (tgt := 98) (dK D_Mo_clear_1 24 rfl) rfl ?_
      refine gL_weak (ls' := [(0, .ref c0), (1, V a1), (2, V a2), (3, V v20)]) (sbc 1 rfl (sbc 2 rfl (sbc 3 rfl (sbc 0 rfl sbn)))) ?_
      replace h := ih _ h
      exact h (Vn_in e_v20)
    · replace h := ifP h hc23
      refine g_aloadn (pc := 118) (i0 := 0) (j := 0) (dK D_Mo_clear_1 19 rfl) rfl rfl ?_
      refine g_iloadn (pc := 119) (i0 := 3) (j := 3) (dK D_Mo_clear_1 20 rfl) rfl rfl ?_
      refine vg_iconst (pc := 120) (dK D_Mo_clear_1 21 rfl) ?_
      refine bnE h (fun p21 e_p21 h => ?_)
      refine vg_cV (pc := 121) (As := [V a3, V 0]) (rest := []) (mc' := 0) (ms' := 0) (dK D_Mo_clear_1 22 rfl) K_Mo_217 (fitK rfl) (ltK rfl) hc0 rfl (leK rfl) (leK rfl) (leK rfl) (tf_Mo_setStandby hc0 ha3 (inRk rfl) e_p21) (kcU ?_)
      refine nmE h (fun v22 e_v22 h => ?_)
      refine vg_iinc (pc := 124) (j := 3) (a := a3) (z := 1) (ls2 := [(3, V v22), (0, .ref c0), (1, V a1), (2, V a2)]) (dK D_Mo_clear_1 23 rfl) rfl e_v22 (ltK rfl) rfl ?_
      refine g_goto (pc := 127) (tgt := 98) (dK D_Mo_clear_1 24 rfl) rfl ?_
      refine gL_weak (ls' := [(0, .ref c0), (1, V a1), (2, V a2), (3, V v22)]) (sbc 1 rfl (sbc 2 rfl (sbc 3 rfl (sbc 0 rfl sbn)))) ?_
      replace h := ih _ h
      exact h (Vn_in e_v22)
def fn_Mo_clear (c0 : Nat) (a1 : Int) (S : St) : Option (Int × St) := nm (u S c0 4 0) fun S1 => bnO (fn_Mo_isPage c0 a1 S1) fun p2 => if p2 = true then (bnO (fn_Mo_throwsIf c0 0 1 S1) fun p4 => if p4.1 = true then (some (0, p4.2)) else (bnO (fn_Mo_adsOn c0 a1 p4.2) fun p6 => bnO (fn_Mo_standbysOn c0 a1 p4.2) fun p7 => nm (wr (p6 + p7)) fun v8 => bnO (fn_Mo_isPrinted c0 a1 p4.2) fun p9 => if p9 = true then (some ((-4), p4.2)) else (if v8 = 0 then (some ((-4), p4.2)) else (bnO (fn_Mo_record c0 p4.2) fun p11 => bnO (lo_Mo_clear_61 c0 a1 v8 FU (0, p11)) fun p18 => bnO (lo_Mo_clear_98 c0 a1 v8 FU (0, p18)) fun p25 => some (v8, p25))))) else (bnO (fn_Mo_throwsIf c0 1 1 S1) fun p27 => if p27.1 = true then (some (0, p27.2)) else (bnO (fn_Mo_adsOn c0 a1 p27.2) fun p29 => bnO (fn_Mo_standbysOn c0 a1 p27.2) fun p30 => nm (wr (p29 + p30)) fun v31 => bnO (fn_Mo_isPrinted c0 a1 p27.2) fun p32 => if p32 = true then (some ((-4), p27.2)) else (if v31 = 0 then (some ((-4), p27.2)) else (bnO (fn_Mo_record c0 p27.2) fun p34 => bnO (lo_Mo_clear_61 c0 a1 v31 FU (0, p34)) fun p35 => bnO (lo_Mo_clear_98 c0 a1 v31 FU (0, p35)) fun p36 => some (v31, p36)))))
theorem tf_Mo_clear {E : EV} {X : XT} {c0 : Nat} (hc0 : HC X 11 c0) {a1 : Int} (ha1 : inR a1) {S : St} {q : Int × St} (h : fn_Mo_clear c0 a1 S = some q) : Ev E M_Mo_clear [.ref c0, V a1] (WX X S) 0 0 (KI X q.1 q.2) := by
  refine Ev.of pn_Mo rfl (leK rfl) ?_
  show Go E M_Mo_clear 0 0 0 [(0, .ref c0), (1, V a1)] [] (WX X S) 0 0 (KI X q.1 q.2)
  unfold fn_Mo_clear at h
  refine g_aloadn (pc := 0) (i0 := 0) (j := 0) (dK D_Mo_clear_0 0 rfl) rfl rfl ?_
  refine vg_iconst (pc := 1) (dK D_Mo_clear_0 1 rfl) ?_
  refine nmE h (fun S1 e_S1 h => ?_)
  refine vg_putI (pc := 2) (ci := 11) (f := 4) (z := 0) (dK D_Mo_clear_0 2 rfl) q_1446 hc0 (ltK rfl) (ltK rfl) rfl rfl e_S1 ?_
  refine g_aloadn (pc := 5) (i0 := 0) (j := 0) (dK D_Mo_clear_0 3 rfl) rfl rfl ?_
  refine g_aloadn (pc := 6) (i0 := 0) (j := 0) (dK D_Mo_clear_0 4 rfl) rfl rfl ?_
  refine g_iloadn (pc := 7) (i0 := 1) (j := 1) (dK D_Mo_clear_0 5 rfl) rfl rfl ?_
  refine bnE h (fun p2 e_p2 h => ?_)
  refine vg_cV (pc := 8) (As := [V a1]) (rest := [.ref c0]) (mc' := 0) (ms' := 0) (dK D_Mo_clear_0 6 rfl) K_Mo_105 (fitK rfl) (ltK rfl) hc0 rfl (leK rfl) (leK rfl) (leK rfl) (tf_Mo_isPage hc0 ha1 e_p2) (kcB ?_)
  refine vg_ifB_ne (pc := 11) (b := p2) (t := 18) (dK D_Mo_clear_0 7 rfl) rfl (fun hc3 => ?_) (fun hc3 => ?_)
  · replace h := ifP h hc3
    refine vg_iconst (pc := 18) (dK D_Mo_clear_0 10 rfl) ?_
    refine vg_iconst (pc := 19) (dK D_Mo_clear_0 11 rfl) ?_
    refine bnE h (fun p4 e_p4 h => ?_)
    refine vg_cV (pc := 20) (As := [V 0, V 1]) (rest := []) (mc' := 0) (ms' := 0) (dK D_Mo_clear_0 12 rfl) K_Mo_125 (fitK rfl) (ltK rfl) hc0 rfl (leK rfl) (leK rfl) (leK rfl) (tf_Mo_throwsIf hc0 (inRk rfl) (inRk rfl) e_p4) (kcB ?_)
    refine vg_ifB_eq (pc := 23) (b := p4.1) (t := 28) (dK D_Mo_clear_0 13 rfl) rfl (fun hc5 => ?_) (fun hc5 => ?_)
    · replace h := ifP h hc5
      refine vg_iconst (pc := 26) (dK D_Mo_clear_0 14 rfl) ?_
      exact vg_iretI (pc := 27) (r := 0) (dK D_Mo_clear_0 15 rfl) rfl (leK rfl) (leK rfl) (fun _ => rfl) (by obtain rfl := Option.some.inj h; exact ⟨rfl, (inRk rfl), rfl⟩)
    · replace h := ifN h hc5
      refine g_aloadn (pc := 28) (i0 := 0) (j := 0) (dK D_Mo_clear_0 16 rfl) rfl rfl ?_
      refine g_iloadn (pc := 29) (i0 := 1) (j := 1) (dK D_Mo_clear_0 17 rfl) rfl rfl ?_
      refine bnE h (fun p6 e_p6 h => ?_)
      refine vg_cV (pc := 30) (As := [V a1]) (rest := []) (mc' := 0) (ms' := 0) (dK D_Mo_clear_0 18 rfl) K_Mo_187 (fitK rfl) (ltK rfl) hc0 rfl (leK rfl) (leK rfl) (leK rfl) (tf_Mo_adsOn hc0 ha1 e_p6) (kcI (fun h_p6 => ?_))
      refine g_aloadn (pc := 33) (i0 := 0) (j := 0) (dK D_Mo_clear_0 19 rfl) rfl rfl ?_
      refine g_iloadn (pc := 34) (i0 := 1) (j := 1) (dK D_Mo_clear_0 20 rfl) rfl rfl ?_
      refine bnE h (fun p7 e_p7 h => ?_)
      refine vg_cV (pc := 35) (As := [V a1]) (rest := [V p6]) (mc' := 0) (ms' := 0) (dK D_Mo_clear_0 21 rfl) K_Mo_190 (fitK rfl) (ltK rfl) hc0 rfl (leK rfl) (leK rfl) (leK rfl) (tf_Mo_standbysOn hc0 ha1 e_p7) (kcI (fun h_p7 => ?_))
      refine vg_iadd (pc := 38) (dK D_Mo_clear_0 22 rfl) ?_
      refine nmE h (fun v8 e_v8 h => ?_)
      refine gtop e_v8 ?_
      refine g_istoren (pc := 39) (i0 := 2) (ls2 := [(2, V v8), (0, .ref c0), (1, V a1)]) (dK D_Mo_clear_0 23 rfl) rfl (ltK rfl) rfl ?_
      refine g_aloadn (pc := 40) (i0 := 0) (j := 1) (dK D_Mo_clear_0 24 rfl) rfl rfl ?_
      refine g_iloadn (pc := 41) (i0 := 1) (j := 2) (dK D_Mo_clear_0 25 rfl) rfl rfl ?_
      refine bnE h (fun p9 e_p9 h => ?_)
      refine vg_cV (pc := 42) (As := [V a1]) (rest := []) (mc' := 0) (ms' := 0) (dK D_Mo_clear_0 26 rfl) K_Mo_109 (fitK rfl) (ltK rfl) hc0 rfl (leK rfl) (leK rfl) (leK rfl) (tf_Mo_isPrinted hc0 ha1 e_p9) (kcB ?_)
      refine vg_ifB_ne (pc := 45) (b := p9) (t := 52) (dK D_Mo_clear_0 27 rfl) rfl (fun hc10 => ?_) (fun hc10 => ?_)
      · replace h := ifP h hc10
        refine vg_bipush (pc := 52) (dK D_Mo_clear_0 30 rfl) rfl ?_
        exact vg_iretI (pc := 54) (r := (-4)) (dK D_Mo_clear_0 31 rfl) rfl (leK rfl) (leK rfl) (fun _ => rfl) (by obtain rfl := Option.some.inj h; exact ⟨rfl, (inRk rfl), rfl⟩)
      · replace h := ifN h hc10
        refine g_iloadn (pc := 48) (i0 := 2) (j := 0) (dK D_Mo_clear_0 28 rfl) rfl rfl ?_
        refine vg_if_ne (pc := 49) (t := 55) (dK D_Mo_clear_0 29 rfl) rfl (Vn_in e_v8) (fun hc26 => ?_) (fun hc26 => ?_)
        · replace h := ifN h hc26
          refine g_aloadn (pc := 55) (i0 := 0) (j := 1) (dK D_Mo_clear_0 32 rfl) rfl rfl ?_
          refine bnE h (fun p11 e_p11 h => ?_)
          refine vg_cV (pc := 56) (As := []) (rest := []) (mc' := 0) (ms' := 0) (dK D_Mo_clear_0 33 rfl) K_Mo_159 (fitK rfl) (ltK rfl) hc0 rfl (leK rfl) (leK rfl) (leK rfl) (tf_Mo_record hc0 e_p11) (kcU ?_)
          refine vg_iconst (pc := 59) (dK D_Mo_clear_0 34 rfl) ?_
          refine g_istoren (pc := 60) (i0 := 3) (ls2 := [(3, V 0), (2, V v8), (0, .ref c0), (1, V a1)]) (dK D_Mo_clear_0 35 rfl) rfl (ltK rfl) rfl ?_
          refine bnE h (fun p18 e_p18 h => ?_)
          refine gL_weak (ls' := [(0, .ref c0), (1, V a1), (2, V v8), (3, V 0)]) (sbc 2 rfl (sbc 3 rfl (sbc 1 rfl (sbc 0 rfl sbn)))) ?_
          refine tl_Mo_clear_61 hc0 ha1 (Vn_in e_v8) ?_ FU (0, p11) e_p18 (inRk rfl)
          refine vg_iconst (pc := 96) (dK D_Mo_clear_1 5 rfl) ?_
          refine g_istoren (pc := 97) (i0 := 3) (ls2 := [(3, V 0), (0, .ref c0), (1, V a1), (2, V v8)]) (dK D_Mo_clear_1 6 rfl) rfl (ltK rfl) rfl ?_
          refine bnE h (fun p25 e_p25 h => ?_)
          refine gL_weak (ls' := [(0, .ref c0), (1, V a1), (2, V v8), (3, V 0)]) (sbc 1 rfl (sbc 2 rfl (sbc 3 rfl (sbc 0 rfl sbn)))) ?_
          refine tl_Mo_clear_98 hc0 ha1 (Vn_in e_v8) ?_ FU (0, p18) e_p25 (inRk rfl)
          refine g_iloadn (pc := 130) (i0 := 2) (j := 0) (dK D_Mo_clear_1 25 rfl) rfl rfl ?_
          exact vg_iretI (pc := 131) (r := v8) (dK D_Mo_clear_1 26 rfl) rfl (leK rfl) (leK rfl) (fun _ => rfl) (by obtain rfl := Option.some.inj h; exact ⟨rfl, (Vn_in e_v8), rfl⟩)
        · replace h := ifP h hc26
          refine vg_bipush (pc := 52) (dK D_Mo_clear_0 30 rfl) rfl ?_
          exact vg_iretI (pc := 54) (r := (-4)) (dK D_Mo_clear_0 31 rfl) rfl (leK rfl) (leK rfl) (fun _ => rfl) (by obtain rfl := Option.some.inj h; exact ⟨rfl, (inRk rfl), rfl⟩)
  · replace h := ifN h hc3
    refine vg_iconst (pc := 14) (dK D_Mo_clear_0 8 rfl) ?_
    refine g_goto (pc := 15) (tgt := 19) (dK D_Mo_clear_0 9 rfl) rfl ?_
    refine vg_iconst (pc := 19) (dK D_Mo_clear_0 11 rfl) ?_
    refine bnE h (fun p27 e_p27 h => ?_)
    refine vg_cV (pc := 20) (As := [V 1, V 1]) (rest := []) (mc' := 0) (ms' := 0) (dK D_Mo_clear_0 12 rfl) K_Mo_125 (fitK rfl) (ltK rfl) hc0 rfl (leK rfl) (leK rfl) (leK rfl) (tf_Mo_throwsIf hc0 (inRk rfl) (inRk rfl) e_p27) (kcB ?_)
    refine vg_ifB_eq (pc := 23) (b := p27.1) (t := 28) (dK D_Mo_clear_0 13 rfl) rfl (fun hc28 => ?_) (fun hc28 => ?_)
    · replace h := ifP h hc28
      refine vg_iconst (pc := 26) (dK D_Mo_clear_0 14 rfl) ?_
      exact vg_iretI (pc := 27) (r := 0) (dK D_Mo_clear_0 15 rfl) rfl (leK rfl) (leK rfl) (fun _ => rfl) (by obtain rfl := Option.some.inj h; exact ⟨rfl, (inRk rfl), rfl⟩)
    · replace h := ifN h hc28
      refine g_aloadn (pc := 28) (i0 := 0) (j := 0) (dK D_Mo_clear_0 16 rfl) rfl rfl ?_
      refine g_iloadn (pc := 29) (i0 := 1) (j := 1) (dK D_Mo_clear_0 17 rfl) rfl rfl ?_
      refine bnE h (fun p29 e_p29 h => ?_)
      refine vg_cV (pc := 30) (As := [V a1]) (rest := []) (mc' := 0) (ms' := 0) (dK D_Mo_clear_0 18 rfl) K_Mo_187 (fitK rfl) (ltK rfl) hc0 rfl (leK rfl) (leK rfl) (leK rfl) (tf_Mo_adsOn hc0 ha1 e_p29) (kcI (fun h_p29 => ?_))
      refine g_aloadn (pc := 33) (i0 := 0) (j := 0) (dK D_Mo_clear_0 19 rfl) rfl rfl ?_
      refine g_iloadn (pc := 34) (i0 := 1) (j := 1) (dK D_Mo_clear_0 20 rfl) rfl rfl ?_
      refine bnE h (fun p30 e_p30 h => ?_)
      refine vg_cV (pc := 35) (As := [V a1]) (rest := [V p29]) (mc' := 0) (ms' := 0) (dK D_Mo_clear_0 21 rfl) K_Mo_190 (fitK rfl) (ltK rfl) hc0 rfl (leK rfl) (leK rfl) (leK rfl) (tf_Mo_standbysOn hc0 ha1 e_p30) (kcI (fun h_p30 => ?_))
      refine vg_iadd (pc := 38) (dK D_Mo_clear_0 22 rfl) ?_
      refine nmE h (fun v31 e_v31 h => ?_)
      refine gtop e_v31 ?_
      refine g_istoren (pc := 39) (i0 := 2) (ls2 := [(2, V v31), (0, .ref c0), (1, V a1)]) (dK D_Mo_clear_0 23 rfl) rfl (ltK rfl) rfl ?_
      refine g_aloadn (pc := 40) (i0 := 0) (j := 1) (dK D_Mo_clear_0 24 rfl) rfl rfl ?_
      refine g_iloadn (pc := 41) (i0 := 1) (j := 2) (dK D_Mo_clear_0 25 rfl) rfl rfl ?_
      refine bnE h (fun p32 e_p32 h => ?_)
      refine vg_cV (pc := 42) (As := [V a1]) (rest := []) (mc' := 0) (ms' := 0) (dK D_Mo_clear_0 26 rfl) K_Mo_109 (fitK rfl) (ltK rfl) hc0 rfl (leK rfl) (leK rfl) (leK rfl) (tf_Mo_isPrinted hc0 ha1 e_p32) (kcB ?_)
      refine vg_ifB_ne (pc := 45) (b := p32) (t := 52) (dK D_Mo_clear_0 27 rfl) rfl (fun hc33 => ?_) (fun hc33 => ?_)
      · replace h := ifP h hc33
        refine vg_bipush (pc := 52) (dK D_Mo_clear_0 30 rfl) rfl ?_
        exact vg_iretI (pc := 54) (r := (-4)) (dK D_Mo_clear_0 31 rfl) rfl (leK rfl) (leK rfl) (fun _ => rfl) (by obtain rfl := Option.some.inj h; exact ⟨rfl, (inRk rfl), rfl⟩)
      · replace h := ifN h hc33
        refine g_iloadn (pc := 48) (i0 := 2) (j := 0) (dK D_Mo_clear_0 28 rfl) rfl rfl ?_
        refine vg_if_ne (pc := 49) (t := 55) (dK D_Mo_clear_0 29 rfl) rfl (Vn_in e_v31) (fun hc37 => ?_) (fun hc37 => ?_)
        · replace h := ifN h hc37
          refine g_aloadn (pc := 55) (i0 := 0) (j := 1) (dK D_Mo_clear_0 32 rfl) rfl rfl ?_
          refine bnE h (fun p34 e_p34 h => ?_)
          refine vg_cV (pc := 56) (As := []) (rest := []) (mc' := 0) (ms' := 0) (dK D_Mo_clear_0 33 rfl) K_Mo_159 (fitK rfl) (ltK rfl) hc0 rfl (leK rfl) (leK rfl) (leK rfl) (tf_Mo_record hc0 e_p34) (kcU ?_)
          refine vg_iconst (pc := 59) (dK D_Mo_clear_0 34 rfl) ?_
          refine g_istoren (pc := 60) (i0 := 3) (ls2 := [(3, V 0), (2, V v31), (0, .ref c0), (1, V a1)]) (dK D_Mo_clear_0 35 rfl) rfl (ltK rfl) rfl ?_
          refine bnE h (fun p35 e_p35 h => ?_)
          refine gL_weak (ls' := [(0, .ref c0), (1, V a1), (2, V v31), (3, V 0)]) (sbc 2 rfl (sbc 3 rfl (sbc 1 rfl (sbc 0 rfl sbn)))) ?_
          refine tl_Mo_clear_61 hc0 ha1 (Vn_in e_v31) ?_ FU (0, p34) e_p35 (inRk rfl)
          refine vg_iconst (pc := 96) (dK D_Mo_clear_1 5 rfl) ?_
          refine g_istoren (pc := 97) (i0 := 3) (ls2 := [(3, V 0), (0, .ref c0), (1, V a1), (2, V v31)]) (dK D_Mo_clear_1 6 rfl) rfl (ltK rfl) rfl ?_
          refine bnE h (fun p36 e_p36 h => ?_)
          refine gL_weak (ls' := [(0, .ref c0), (1, V a1), (2, V v31), (3, V 0)]) (sbc 1 rfl (sbc 2 rfl (sbc 3 rfl (sbc 0 rfl sbn)))) ?_
          refine tl_Mo_clear_98 hc0 ha1 (Vn_in e_v31) ?_ FU (0, p35) e_p36 (inRk rfl)
          refine g_iloadn (pc := 130) (i0 := 2) (j := 0) (dK D_Mo_clear_1 25 rfl) rfl rfl ?_
          exact vg_iretI (pc := 131) (r := v31) (dK D_Mo_clear_1 26 rfl) rfl (leK rfl) (leK rfl) (fun _ => rfl) (by obtain rfl := Option.some.inj h; exact ⟨rfl, (Vn_in e_v31), rfl⟩)
        · replace h := ifP h hc37
          refine vg_bipush (pc := 52) (dK D_Mo_clear_0 30 rfl) rfl ?_
          exact vg_iretI (pc := 54) (r := (-4)) (dK D_Mo_clear_0 31 rfl) rfl (leK rfl) (leK rfl) (fun _ => rfl) (by obtain rfl := Option.some.inj h; exact ⟨rfl, (inRk rfl), rfl⟩)
def fn_Mo_otherOf (a0 : Int) (a1 : Int) (a2 : Int) (S : St) : Option (Int) := if a0 = a1 then (some a2) else (if a0 = a2 then (some a1) else (some a0))
theorem tf_Mo_otherOf {E : EV} {X : XT} {a0 : Int} (ha0 : inR a0) {a1 : Int} (ha1 : inR a1) {a2 : Int} (ha2 : inR a2) {S : St} {q : Int} (h : fn_Mo_otherOf a0 a1 a2 S = some q) : Ev E M_Mo_otherOf [V a0, V a1, V a2] (WX X S) 0 0 (KI X q S) := by
  refine Ev.of pn_Mo rfl (leK rfl) ?_
  show Go E M_Mo_otherOf 0 0 0 [(0, V a0), (1, V a1), (2, V a2)] [] (WX X S) 0 0 (KI X q S)
  unfold fn_Mo_otherOf at h
  refine g_iloadn (pc := 0) (i0 := 0) (j := 0) (dK D_Mo_otherOf 0 rfl) rfl rfl ?_
  refine g_iloadn (pc := 1) (i0 := 1) (j := 1) (dK D_Mo_otherOf 1 rfl) rfl rfl ?_
  refine vg_icmp_ne (pc := 2) (t := 9) (dK D_Mo_otherOf 2 rfl) rfl ha0 ha1 (fun hc2 => ?_) (fun hc2 => ?_)
  · replace h := ifN h hc2
    refine g_iloadn (pc := 9) (i0 := 0) (j := 0) (dK D_Mo_otherOf 5 rfl) rfl rfl ?_
    refine g_iloadn (pc := 10) (i0 := 2) (j := 2) (dK D_Mo_otherOf 6 rfl) rfl rfl ?_
    refine vg_icmp_ne (pc := 11) (t := 18) (dK D_Mo_otherOf 7 rfl) rfl ha0 ha2 (fun hc1 => ?_) (fun hc1 => ?_)
    · replace h := ifN h hc1
      refine g_iloadn (pc := 18) (i0 := 0) (j := 0) (dK D_Mo_otherOf 10 rfl) rfl rfl ?_
      exact vg_iretI (pc := 19) (r := a0) (dK D_Mo_otherOf 11 rfl) rfl (leK rfl) (leK rfl) (fun _ => rfl) (by obtain rfl := Option.some.inj h; exact ⟨rfl, ha0, rfl⟩)
    · replace h := ifP h hc1
      refine g_iloadn (pc := 14) (i0 := 1) (j := 1) (dK D_Mo_otherOf 8 rfl) rfl rfl ?_
      refine g_goto (pc := 15) (tgt := 19) (dK D_Mo_otherOf 9 rfl) rfl ?_
      exact vg_iretI (pc := 19) (r := a1) (dK D_Mo_otherOf 11 rfl) rfl (leK rfl) (leK rfl) (fun _ => rfl) (by obtain rfl := Option.some.inj h; exact ⟨rfl, ha1, rfl⟩)
  · replace h := ifP h hc2
    refine g_iloadn (pc := 5) (i0 := 2) (j := 2) (dK D_Mo_otherOf 3 rfl) rfl rfl ?_
    refine g_goto (pc := 6) (tgt := 19) (dK D_Mo_otherOf 4 rfl) rfl ?_
    exact vg_iretI (pc := 19) (r := a2) (dK D_Mo_otherOf 11 rfl) rfl (leK rfl) (leK rfl) (fun _ => rfl) (by obtain rfl := Option.some.inj h; exact ⟨rfl, ha2, rfl⟩)
