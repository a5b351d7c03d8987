def jf_Mo_readPlace_85 (c0 : Nat) (a1 : Int) (a2 : Int) (a3 : Int) (t0 : Int) (S : St) : Option (Bool × St) := if 0 ≤ t0 ∧ t0 < 8740 then (if 0 < (g S (tgt c0 0) t0.toNat) then (nm (u S c0 19 a3) fun S10 => bnO (fn_Mo_fail c0 4 S10) fun p11 => some (p11.1, p11.2)) else (if a1 = 0 then (bnO (fn_Mo_storyReasonOf c0 a2 (g S c0 20) S) fun p12 => if p12 ≤ 0 then (nm (u S (tgt c0 0) t0.toNat (g S c0 20)) fun S13 => bnO (fn_Mo_readEnd c0 S13) fun p14 => some (p14.1, p14.2)) else (nm (u S c0 19 a3) fun S15 => bnO (fn_Mo_fail c0 4 S15) fun p16 => some (p16.1, p16.2))) else (bnO (fn_Mo_reasonOf c0 a2 (g S c0 20) S) fun p18 => if p18 ≤ 0 then (nm (u S (tgt c0 0) t0.toNat (g S c0 20)) fun S19 => bnO (fn_Mo_readEnd c0 S19) fun p20 => some (p20.1, p20.2)) else (nm (u S c0 19 a3) fun S21 => bnO (fn_Mo_fail c0 4 S21) fun p22 => some (p22.1, p22.2))))) else none
theorem tj_Mo_readPlace_85 {E : EV} {X : XT} {c0 : Nat} (hc0 : HC X 11 c0) {a1 : Int} (ha1 : inR a1) {a2 : Int} (ha2 : inR a2) {a3 : Int} (ha3 : inR a3) {t0 : Int} (ht0 : inR t0) {S : St} {q : Bool × St} (h : jf_Mo_readPlace_85 c0 a1 a2 a3 t0 S = some q) : Go E M_Mo_readPlace 0 0 85 [(0, .ref c0), (1, V a1), (2, V a2), (3, V a3)] [V t0] (WX X S) 0 0 (KB X q.1 q.2) := by
  unfold jf_Mo_readPlace_85 at h
  refine g_istore (pc := 85) (ls2 := [(4, V t0), (0, .ref c0), (1, V a1), (2, V a2), (3, V a3)]) (dK D_Mo_readPlace_1 2 rfl) (ltK rfl) rfl ?_
  refine g_aloadn (pc := 87) (i0 := 0) (j := 1) (dK D_Mo_readPlace_1 3 rfl) rfl rfl ?_
  refine vg_getA (pc := 88) (ci := 11) (f := 0) (dK D_Mo_readPlace_1 4 rfl) q_1442 hc0 (ltK rfl) (ltK rfl) rfl ?_
  refine g_iload (pc := 91) (j := 0) (dK D_Mo_readPlace_1 5 rfl) rfl ?_
  refine gdE h (fun hi9 h => ?_)
  refine vg_iaload (pc := 93) (j := t0.toNat) (dK D_Mo_readPlace_1 6 rfl) (hw_11_0 hc0) rfl hi9 rfl ?_
  refine vg_if_gt (pc := 94) (t := 125) (dK D_Mo_readPlace_1 7 rfl) rfl (g_in _ _ _) (fun hc25 => ?_) (fun hc25 => ?_)
  · replace h := ifP h hc25
    refine g_aloadn (pc := 125) (i0 := 0) (j := 1) (dK D_Mo_readPlace_1 22 rfl) rfl rfl ?_
    refine g_iloadn (pc := 126) (i0 := 3) (j := 4) (dK D_Mo_readPlace_1 23 rfl) rfl rfl ?_
    refine nmE h (fun S10 e_S10 h => ?_)
    refine vg_putI (pc := 127) (ci := 11) (f := 19) (z := a3) (dK D_Mo_readPlace_1 24 rfl) q_1461 hc0 (ltK rfl) (ltK rfl) rfl rfl e_S10 ?_
    refine g_aloadn (pc := 130) (i0 := 0) (j := 1) (dK D_Mo_readPlace_1 25 rfl) rfl rfl ?_
    refine vg_iconst (pc := 131) (dK D_Mo_readPlace_1 26 rfl) ?_
    refine bnE h (fun p11 e_p11 h => ?_)
    refine vg_cV (pc := 132) (As := [V 4]) (rest := []) (mc' := 0) (ms' := 0) (dK D_Mo_readPlace_1 27 rfl) K_Mo_349 (fitK rfl) (ltK rfl) hc0 rfl (leK rfl) (leK rfl) (leK rfl) (tf_Mo_fail hc0 (inRk rfl) e_p11) (kcB ?_)
    exact vg_iretB (pc := 135) (b := p11.1) (dK D_Mo_readPlace_1 28 rfl) rfl (leK rfl) (leK rfl) (fun _ => rfl) (by obtain rfl := Option.some.inj h; exact ⟨rfl, rfl⟩)
  · replace h := ifN h hc25
    refine g_iloadn (pc := 97) (i0 := 1) (j := 2) (dK D_Mo_readPlace_1 8 rfl) rfl rfl ?_
    refine vg_if_eq (pc := 98) (t := 113) (dK D_Mo_readPlace_1 9 rfl) rfl ha1 (fun hc24 => ?_) (fun hc24 => ?_)
    · replace h := ifP h hc24
      refine g_aloadn (pc := 113) (i0 := 0) (j := 1) (dK D_Mo_readPlace_1 16 rfl) rfl rfl ?_
      refine g_iloadn (pc := 114) (i0 := 2) (j := 3) (dK D_Mo_readPlace_1 17 rfl) rfl rfl ?_
      refine g_aloadn (pc := 115) (i0 := 0) (j := 1) (dK D_Mo_readPlace_1 18 rfl) rfl rfl ?_
      refine vg_getI (pc := 116) (ci := 11) (f := 20) (dK D_Mo_readPlace_1 19 rfl) q_1462 hc0 (ltK rfl) (ltK rfl) rfl ?_
      refine bnE h (fun p12 e_p12 h => ?_)
      refine vg_cV (pc := 119) (As := [V a2, V (g S c0 20)]) (rest := []) (mc' := 0) (ms' := 0) (dK D_Mo_readPlace_1 20 rfl) K_Mo_135 (fitK rfl) (ltK rfl) hc0 rfl (leK rfl) (leK rfl) (leK rfl) (tf_Mo_storyReasonOf hc0 ha2 (g_in _ _ _) e_p12) (kcI (fun h_p12 => ?_))
      refine vg_if_le (pc := 122) (t := 136) (dK D_Mo_readPlace_1 21 rfl) rfl h_p12 (fun hc17 => ?_) (fun hc17 => ?_)
      · replace h := ifP h hc17
        refine g_aloadn (pc := 136) (i0 := 0) (j := 1) (dK D_Mo_readPlace_1 29 rfl) rfl rfl ?_
        refine vg_getA (pc := 137) (ci := 11) (f := 0) (dK D_Mo_readPlace_1 30 rfl) q_1442 hc0 (ltK rfl) (ltK rfl) rfl ?_
        refine g_iload (pc := 140) (j := 0) (dK D_Mo_readPlace_1 31 rfl) rfl ?_
        refine g_aloadn (pc := 142) (i0 := 0) (j := 1) (dK D_Mo_readPlace_1 32 rfl) rfl rfl ?_
        refine vg_getI (pc := 143) (ci := 11) (f := 20) (dK D_Mo_readPlace_1 33 rfl) q_1462 hc0 (ltK rfl) (ltK rfl) rfl ?_
        refine nmE h (fun S13 e_S13 h => ?_)
        refine vg_iastore (pc := 146) (z := (g S c0 20)) (dK D_Mo_readPlace_1 34 rfl) (hw_11_0 hc0) rfl hi9 rfl e_S13 ?_
        refine g_aloadn (pc := 147) (i0 := 0) (j := 1) (dK D_Mo_readPlace_1 35 rfl) rfl rfl ?_
        refine bnE h (fun p14 e_p14 h => ?_)
        refine vg_cV (pc := 148) (As := []) (rest := []) (mc' := 0) (ms' := 0) (dK D_Mo_readPlace_1 36 rfl) K_Mo_369 (fitK rfl) (ltK rfl) hc0 rfl (leK rfl) (leK rfl) (leK rfl) (tf_Mo_readEnd hc0 e_p14) (kcB ?_)
        exact vg_iretB (pc := 151) (b := p14.1) (dK D_Mo_readPlace_1 37 rfl) rfl (leK rfl) (leK rfl) (fun _ => rfl) (by obtain rfl := Option.some.inj h; exact ⟨rfl, rfl⟩)
      · replace h := ifN h hc17
        refine g_aloadn (pc := 125) (i0 := 0) (j := 1) (dK D_Mo_readPlace_1 22 rfl) rfl rfl ?_
        refine g_iloadn (pc := 126) (i0 := 3) (j := 4) (dK D_Mo_readPlace_1 23 rfl) rfl rfl ?_
        refine nmE h (fun S15 e_S15 h => ?_)
        refine vg_putI (pc := 127) (ci := 11) (f := 19) (z := a3) (dK D_Mo_readPlace_1 24 rfl) q_1461 hc0 (ltK rfl) (ltK rfl) rfl rfl e_S15 ?_
        refine g_aloadn (pc := 130) (i0 := 0) (j := 1) (dK D_Mo_readPlace_1 25 rfl) rfl rfl ?_
        refine vg_iconst (pc := 131) (dK D_Mo_readPlace_1 26 rfl) ?_
        refine bnE h (fun p16 e_p16 h => ?_)
        refine vg_cV (pc := 132) (As := [V 4]) (rest := []) (mc' := 0) (ms' := 0) (dK D_Mo_readPlace_1 27 rfl) K_Mo_349 (fitK rfl) (ltK rfl) hc0 rfl (leK rfl) (leK rfl) (leK rfl) (tf_Mo_fail hc0 (inRk rfl) e_p16) (kcB ?_)
        exact vg_iretB (pc := 135) (b := p16.1) (dK D_Mo_readPlace_1 28 rfl) rfl (leK rfl) (leK rfl) (fun _ => rfl) (by obtain rfl := Option.some.inj h; exact ⟨rfl, rfl⟩)
    · replace h := ifN h hc24
      refine g_aloadn (pc := 101) (i0 := 0) (j := 1) (dK D_Mo_readPlace_1 10 rfl) rfl rfl ?_
      refine g_iloadn (pc := 102) (i0 := 2) (j := 3) (dK D_Mo_readPlace_1 11 rfl) rfl rfl ?_
      refine g_aloadn (pc := 103) (i0 := 0) (j := 1) (dK D_Mo_readPlace_1 12 rfl) rfl rfl ?_
      refine vg_getI (pc := 104) (ci := 11) (f := 20) (dK D_Mo_readPlace_1 13 rfl) q_1462 hc0 (ltK rfl) (ltK rfl) rfl ?_
      refine bnE h (fun p18 e_p18 h => ?_)
      refine vg_cV (pc := 107) (As := [V a2, V (g S c0 20)]) (rest := []) (mc' := 0) (ms' := 0) (dK D_Mo_readPlace_1 14 rfl) K_Mo_129 (fitK rfl) (ltK rfl) hc0 rfl (leK rfl) (leK rfl) (leK rfl) (tf_Mo_reasonOf hc0 ha2 (g_in _ _ _) e_p18) (kcI (fun h_p18 => ?_))
      refine g_goto (pc := 110) (tgt := 122) (dK D_Mo_readPlace_1 15 rfl) rfl ?_
      refine vg_if_le (pc := 122) (t := 136) (dK D_Mo_readPlace_1 21 rfl) rfl h_p18 (fun hc23 => ?_) (fun hc23 => ?_)
      · replace h := ifP h hc23
        refine g_aloadn (pc := 136) (i0 := 0) (j := 1) (dK D_Mo_readPlace_1 29 rfl) rfl rfl ?_
        refine vg_getA (pc := 137) (ci := 11) (f := 0) (dK D_Mo_readPlace_1 30 rfl) q_1442 hc0 (ltK rfl) (ltK rfl) rfl ?_
        refine g_iload (pc := 140) (j := 0) (dK D_Mo_readPlace_1 31 rfl) rfl ?_
        refine g_aloadn (pc := 142) (i0 := 0) (j := 1) (dK D_Mo_readPlace_1 32 rfl) rfl rfl ?_
        refine vg_getI (pc := 143) (ci := 11) (f := 20) (dK D_Mo_readPlace_1 33 rfl) q_1462 hc0 (ltK rfl) (ltK rfl) rfl ?_
        refine nmE h (fun S19 e_S19 h => ?_)
        refine vg_iastore (pc := 146) (z := (g S c0 20)) (dK D_Mo_readPlace_1 34 rfl) (hw_11_0 hc0) rfl hi9 rfl e_S19 ?_
        refine g_aloadn (pc := 147) (i0 := 0) (j := 1) (dK D_Mo_readPlace_1 35 rfl) rfl rfl ?_
        refine bnE h (fun p20 e_p20 h => ?_)
        refine vg_cV (pc := 148) (As := []) (rest := []) (mc' := 0) (ms' := 0) (dK D_Mo_readPlace_1 36 rfl) K_Mo_369 (fitK rfl) (ltK rfl) hc0 rfl (leK rfl) (leK rfl) (leK rfl) (tf_Mo_readEnd hc0 e_p20) (kcB ?_)
        exact vg_iretB (pc := 151) (b := p20.1) (dK D_Mo_readPlace_1 37 rfl) rfl (leK rfl) (leK rfl) (fun _ => rfl) (by obtain rfl := Option.some.inj h; exact ⟨rfl, rfl⟩)
      · replace h := ifN h hc23
        refine g_aloadn (pc := 125) (i0 := 0) (j := 1) (dK D_Mo_readPlace_1 22 rfl) rfl rfl ?_
        refine g_iloadn (pc := 126) (i0 := 3) (j := 4) (dK D_Mo_readPlace_1 23 rfl) rfl rfl ?_
        refine nmE h (fun S21 e_S21 h => ?_)
        refine vg_putI (pc := 127) (ci := 11) (f := 19) (z := a3) (dK D_Mo_readPlace_1 24 rfl) q_1461 hc0 (ltK rfl) (ltK rfl) rfl rfl e_S21 ?_
        refine g_aloadn (pc := 130) (i0 := 0) (j := 1) (dK D_Mo_readPlace_1 25 rfl) rfl rfl ?_
        refine vg_iconst (pc := 131) (dK D_Mo_readPlace_1 26 rfl) ?_
        refine bnE h (fun p22 e_p22 h => ?_)
        refine vg_cV (pc := 132) (As := [V 4]) (rest := []) (mc' := 0) (ms' := 0) (dK D_Mo_readPlace_1 27 rfl) K_Mo_349 (fitK rfl) (ltK rfl) hc0 rfl (leK rfl) (leK rfl) (leK rfl) (tf_Mo_fail hc0 (inRk rfl) e_p22) (kcB ?_)
        exact vg_iretB (pc := 135) (b := p22.1) (dK D_Mo_readPlace_1 28 rfl) rfl (leK rfl) (leK rfl) (fun _ => rfl) (by obtain rfl := Option.some.inj h; exact ⟨rfl, rfl⟩)
def fn_Mo_readPlace (c0 : Nat) (a1 : Int) (S : St) : Option (Bool × St) := bnO (fn_Mo_advance c0 S) fun p1 => if a1 = 0 then (nm (wr ((g p1 (tgt c0 0) 2) - 1)) fun v2 => bnO (fn_Mo_readNumber c0 0 v2 p1) fun p3 => if p3.1 = true then (bnO (fn_Mo_pageMany c0 p3.2) fun p5 => bnO (fn_Mo_readNumber c0 1 p5 p3.2) fun p6 => if p6.1 = true then (if a1 = 0 then (nm (wr ((309 + (5 * (g p3.2 c0 20))) + 4)) fun v8 => jf_Mo_readPlace_85 c0 a1 (g p3.2 c0 20) (g p3.2 c0 19) v8 p6.2) else (nm (wr ((29 + (7 * (g p3.2 c0 20))) + 6)) fun v26 => jf_Mo_readPlace_85 c0 a1 (g p3.2 c0 20) (g p3.2 c0 19) v26 p6.2)) else (some (false, p6.2))) else (some (false, p3.2))) else (nm (wr ((g p1 (tgt c0 0) 1) - 1)) fun v28 => bnO (fn_Mo_readNumber c0 0 v28 p1) fun p29 => if p29.1 = true then (bnO (fn_Mo_pageMany c0 p29.2) fun p31 => bnO (fn_Mo_readNumber c0 1 p31 p29.2) fun p32 => if p32.1 = true then (if a1 = 0 then (nm (wr ((309 + (5 * (g p29.2 c0 20))) + 4)) fun v34 => jf_Mo_readPlace_85 c0 a1 (g p29.2 c0 20) (g p29.2 c0 19) v34 p32.2) else (nm (wr ((29 + (7 * (g p29.2 c0 20))) + 6)) fun v35 => jf_Mo_readPlace_85 c0 a1 (g p29.2 c0 20) (g p29.2 c0 19) v35 p32.2)) else (some (false, p32.2))) else (some (false, p29.2)))
set_option maxHeartbeats 20000000 in
theorem tf_Mo_readPlace {E : EV} {X : XT} {c0 : Nat} (hc0 : HC X 11 c0) {a1 : Int} (ha1 : inR a1) {S : St} {q : Bool × St} (h : fn_Mo_readPlace c0 a1 S = some q) : Ev E M_Mo_readPlace [.ref c0, V a1] (WX X S) 0 0 (KB X q.1 q.2) := by
  refine Ev.of pn_Mo rfl (leK rfl) ?_
  show Go E M_Mo_readPlace 0 0 0 [(0, .ref c0), (1, V a1)] [] (WX X S) 0 0 (KB X q.1 q.2)
  unfold fn_Mo_readPlace at h
  refine g_aloadn (pc := 0) (i0 := 0) (j := 0) (dK D_Mo_readPlace_0 0 rfl) rfl rfl ?_
  refine bnE h (fun p1 e_p1 h => ?_)
  refine vg_cV (pc := 1) (As := []) (rest := []) (mc' := 0) (ms' := 0) (dK D_Mo_readPlace_0 1 rfl) K_Mo_355 (fitK rfl) (ltK rfl) hc0 rfl (leK rfl) (leK rfl) (leK rfl) (tf_Mo_advance hc0 e_p1) (kcU ?_)
  refine g_aloadn (pc := 4) (i0 := 0) (j := 0) (dK D_Mo_readPlace_0 2 rfl) rfl rfl ?_
  refine vg_iconst (pc := 5) (dK D_Mo_readPlace_0 3 rfl) ?_
  refine g_iloadn (pc := 6) (i0 := 1) (j := 1) (dK D_Mo_readPlace_0 4 rfl) rfl rfl ?_
  refine vg_if_eq (pc := 7) (t := 19) (dK D_Mo_readPlace_0 5 rfl) rfl ha1 (fun hc37 => ?_) (fun hc37 => ?_)
  · replace h := ifP h hc37
    refine g_aloadn (pc := 19) (i0 := 0) (j := 0) (dK D_Mo_readPlace_0 11 rfl) rfl rfl ?_
    refine vg_getA (pc := 20) (ci := 11) (f := 0) (dK D_Mo_readPlace_0 12 rfl) q_1442 hc0 (ltK rfl) (ltK rfl) rfl ?_
    refine vg_iconst (pc := 23) (dK D_Mo_readPlace_0 13 rfl) ?_
    refine vg_iaload (pc := 24) (j := 2) (dK D_Mo_readPlace_0 14 rfl) (hw_11_0 hc0) rfl ⟨by decide, by decide⟩ rfl ?_
    refine vg_iconst (pc := 25) (dK D_Mo_readPlace_0 15 rfl) ?_
    refine vg_isub (pc := 26) (dK D_Mo_readPlace_0 16 rfl) ?_
    refine nmE h (fun v2 e_v2 h => ?_)
    refine gtop e_v2 ?_
    refine bnE h (fun p3 e_p3 h => ?_)
    refine vg_cV (pc := 27) (As := [V 0, V v2]) (rest := []) (mc' := 0) (ms' := 0) (dK D_Mo_readPlace_0 17 rfl) K_Mo_358 (fitK rfl) (ltK rfl) hc0 rfl (leK rfl) (leK rfl) (leK rfl) (tf_Mo_readNumber hc0 (inRk rfl) (Vn_in e_v2) e_p3) (kcB ?_)
    refine vg_ifB_ne (pc := 30) (b := p3.1) (t := 35) (dK D_Mo_readPlace_0 18 rfl) rfl (fun hc4 => ?_) (fun hc4 => ?_)
    · replace h := ifP h hc4
      refine g_aloadn (pc := 35) (i0 := 0) (j := 0) (dK D_Mo_readPlace_0 21 rfl) rfl rfl ?_
      refine vg_getI (pc := 36) (ci := 11) (f := 20) (dK D_Mo_readPlace_0 22 rfl) q_1462 hc0 (ltK rfl) (ltK rfl) rfl ?_
      refine g_istoren (pc := 39) (i0 := 2) (ls2 := [(2, V (g p3.2 c0 20)), (0, .ref c0), (1, V a1)]) (dK D_Mo_readPlace_0 23 rfl) rfl (ltK rfl) rfl ?_
      refine g_aloadn (pc := 40) (i0 := 0) (j := 1) (dK D_Mo_readPlace_0 24 rfl) rfl rfl ?_
      refine vg_getI (pc := 41) (ci := 11) (f := 19) (dK D_Mo_readPlace_0 25 rfl) q_1461 hc0 (ltK rfl) (ltK rfl) rfl ?_
      refine g_istoren (pc := 44) (i0 := 3) (ls2 := [(3, V (g p3.2 c0 19)), (2, V (g p3.2 c0 20)), (0, .ref c0), (1, V a1)]) (dK D_Mo_readPlace_0 26 rfl) rfl (ltK rfl) rfl ?_
      refine g_aloadn (pc := 45) (i0 := 0) (j := 2) (dK D_Mo_readPlace_0 27 rfl) rfl rfl ?_
      refine vg_iconst (pc := 46) (dK D_Mo_readPlace_0 28 rfl) ?_
      refine g_aloadn (pc := 47) (i0 := 0) (j := 2) (dK D_Mo_readPlace_0 29 rfl) rfl rfl ?_
      refine bnE h (fun p5 e_p5 h => ?_)
      refine vg_cV (pc := 48) (As := []) (rest := [V 1, .ref c0]) (mc' := 0) (ms' := 0) (dK D_Mo_readPlace_0 30 rfl) K_Mo_63 (fitK rfl) (ltK rfl) hc0 rfl (leK rfl) (leK rfl) (leK rfl) (tf_Mo_pageMany hc0 e_p5) (kcI (fun h_p5 => ?_))
      refine bnE h (fun p6 e_p6 h => ?_)
      refine vg_cV (pc := 51) (As := [V 1, V p5]) (rest := []) (mc' := 0) (ms' := 0) (dK D_Mo_readPlace_0 31 rfl) K_Mo_358 (fitK rfl) (ltK rfl) hc0 rfl (leK rfl) (leK rfl) (leK rfl) (tf_Mo_readNumber hc0 (inRk rfl) h_p5 e_p6) (kcB ?_)
      refine vg_ifB_ne (pc := 54) (b := p6.1) (t := 59) (dK D_Mo_readPlace_0 32 rfl) rfl (fun hc7 => ?_) (fun hc7 => ?_)
      · replace h := ifP h hc7
        refine g_iloadn (pc := 59) (i0 := 1) (j := 3) (dK D_Mo_readPlace_0 35 rfl) rfl rfl ?_
        refine vg_if_eq (pc := 60) (t := 76) (dK D_Mo_readPlace_0 36 rfl) rfl ha1 (fun hc27 => ?_) (fun hc27 => ?_)
        · replace h := ifP h hc27
          refine vg_sipush (pc := 76) (dK D_Mo_readPlace_0 45 rfl) rfl ?_
          refine vg_iconst (pc := 79) (dK D_Mo_readPlace_0 46 rfl) ?_
          refine g_iloadn (pc := 80) (i0 := 2) (j := 1) (dK D_Mo_readPlace_0 47 rfl) rfl rfl ?_
          refine vg_imul (pc := 81) (dK D_Mo_readPlace_0 48 rfl) ?_
          refine vg_iadd (pc := 82) (dK D_Mo_readPlace_0 49 rfl) ?_
          refine vg_iconst (pc := 83) (dK D_Mo_readPlace_1 0 rfl) ?_
          refine vg_iadd (pc := 84) (dK D_Mo_readPlace_1 1 rfl) ?_
          refine nmE h (fun v8 e_v8 h => ?_)
          refine gtop e_v8 ?_
          refine gL_weak (ls' := [(0, .ref c0), (1, V a1), (2, V (g p3.2 c0 20)), (3, V (g p3.2 c0 19))]) (sbc 2 rfl (sbc 3 rfl (sbc 1 rfl (sbc 0 rfl sbn)))) ?_
          exact tj_Mo_readPlace_85 hc0 ha1 (g_in _ _ _) (g_in _ _ _) (Vn_in e_v8) h
        · replace h := ifN h hc27
          refine vg_bipush (pc := 63) (dK D_Mo_readPlace_0 37 rfl) rfl ?_
          refine vg_bipush (pc := 65) (dK D_Mo_readPlace_0 38 rfl) rfl ?_
          refine g_iloadn (pc := 67) (i0 := 2) (j := 1) (dK D_Mo_readPlace_0 39 rfl) rfl rfl ?_
          refine vg_imul (pc := 68) (dK D_Mo_readPlace_0 40 rfl) ?_
          refine vg_iadd (pc := 69) (dK D_Mo_readPlace_0 41 rfl) ?_
          refine vg_bipush (pc := 70) (dK D_Mo_readPlace_0 42 rfl) rfl ?_
          refine vg_iadd (pc := 72) (dK D_Mo_readPlace_0 43 rfl) ?_
          refine g_goto (pc := 73) (tgt := 85) (dK D_Mo_readPlace_0 44 rfl) rfl ?_
          refine nmE h (fun v26 e_v26 h => ?_)
          refine gtop e_v26 ?_
          refine gL_weak (ls' := [(0, .ref c0), (1, V a1), (2, V (g p3.2 c0 20)), (3, V (g p3.2 c0 19))]) (sbc 2 rfl (sbc 3 rfl (sbc 1 rfl (sbc 0 rfl sbn)))) ?_
          exact tj_Mo_readPlace_85 hc0 ha1 (g_in _ _ _) (g_in _ _ _) (Vn_in e_v26) h
      · replace h := ifN h hc7
        refine vg_iconst (pc := 57) (dK D_Mo_readPlace_0 33 rfl) ?_
        exact vg_iretB (pc := 58) (b := false) (dK D_Mo_readPlace_0 34 rfl) rfl (leK rfl) (leK rfl) (fun _ => rfl) (by obtain rfl := Option.some.inj h; exact ⟨rfl, rfl⟩)
    · replace h := ifN h hc4
      refine vg_iconst (pc := 33) (dK D_Mo_readPlace_0 19 rfl) ?_
      exact vg_iretB (pc := 34) (b := false) (dK D_Mo_readPlace_0 20 rfl) rfl (leK rfl) (leK rfl) (fun _ => rfl) (by obtain rfl := Option.some.inj h; exact ⟨rfl, rfl⟩)
  · replace h := ifN h hc37
    refine g_aloadn (pc := 10) (i0 := 0) (j := 0) (dK D_Mo_readPlace_0 6 rfl) rfl rfl ?_
    refine vg_getA (pc := 11) (ci := 11) (f := 0) (dK D_Mo_readPlace_0 7 rfl) q_1442 hc0 (ltK rfl) (ltK rfl) rfl ?_
    refine vg_iconst (pc := 14) (dK D_Mo_readPlace_0 8 rfl) ?_
    refine vg_iaload (pc := 15) (j := 1) (dK D_Mo_readPlace_0 9 rfl) (hw_11_0 hc0) rfl ⟨by decide, by decide⟩ rfl ?_
    refine g_goto (pc := 16) (tgt := 25) (dK D_Mo_readPlace_0 10 rfl) rfl ?_
    refine vg_iconst (pc := 25) (dK D_Mo_readPlace_0 15 rfl) ?_
    refine vg_isub (pc := 26) (dK D_Mo_readPlace_0 16 rfl) ?_
    refine nmE h (fun v28 e_v28 h => ?_)
    refine gtop e_v28 ?_
    refine bnE h (fun p29 e_p29 h => ?_)
    refine vg_cV (pc := 27) (As := [V 0, V v28]) (rest := []) (mc' := 0) (ms' := 0) (dK D_Mo_readPlace_0 17 rfl) K_Mo_358 (fitK rfl) (ltK rfl) hc0 rfl (leK rfl) (leK rfl) (leK rfl) (tf_Mo_readNumber hc0 (inRk rfl) (Vn_in e_v28) e_p29) (kcB ?_)
    refine vg_ifB_ne (pc := 30) (b := p29.1) (t := 35) (dK D_Mo_readPlace_0 18 rfl) rfl (fun hc30 => ?_) (fun hc30 => ?_)
    · replace h := ifP h hc30
      refine g_aloadn (pc := 35) (i0 := 0) (j := 0) (dK D_Mo_readPlace_0 21 rfl) rfl rfl ?_
      refine vg_getI (pc := 36) (ci := 11) (f := 20) (dK D_Mo_readPlace_0 22 rfl) q_1462 hc0 (ltK rfl) (ltK rfl) rfl ?_
      refine g_istoren (pc := 39) (i0 := 2) (ls2 := [(2, V (g p29.2 c0 20)), (0, .ref c0), (1, V a1)]) (dK D_Mo_readPlace_0 23 rfl) rfl (ltK rfl) rfl ?_
      refine g_aloadn (pc := 40) (i0 := 0) (j := 1) (dK D_Mo_readPlace_0 24 rfl) rfl rfl ?_
      refine vg_getI (pc := 41) (ci := 11) (f := 19) (dK D_Mo_readPlace_0 25 rfl) q_1461 hc0 (ltK rfl) (ltK rfl) rfl ?_
      refine g_istoren (pc := 44) (i0 := 3) (ls2 := [(3, V (g p29.2 c0 19)), (2, V (g p29.2 c0 20)), (0, .ref c0), (1, V a1)]) (dK D_Mo_readPlace_0 26 rfl) rfl (ltK rfl) rfl ?_
      refine g_aloadn (pc := 45) (i0 := 0) (j := 2) (dK D_Mo_readPlace_0 27 rfl) rfl rfl ?_
      refine vg_iconst (pc := 46) (dK D_Mo_readPlace_0 28 rfl) ?_
      refine g_aloadn (pc := 47) (i0 := 0) (j := 2) (dK D_Mo_readPlace_0 29 rfl) rfl rfl ?_
      refine bnE h (fun p31 e_p31 h => ?_)
      refine vg_cV (pc := 48) (As := []) (rest := [V 1, .ref c0]) (mc' := 0) (ms' := 0) (dK D_Mo_readPlace_0 30 rfl) K_Mo_63 (fitK rfl) (ltK rfl) hc0 rfl (leK rfl) (leK rfl) (leK rfl) (tf_Mo_pageMany hc0 e_p31) (kcI (fun h_p31 => ?_))
      refine bnE h (fun p32 e_p32 h => ?_)
      refine vg_cV (pc := 51) (As := [V 1, V p31]) (rest := []) (mc' := 0) (ms' := 0) (dK D_Mo_readPlace_0 31 rfl) K_Mo_358 (fitK rfl) (ltK rfl) hc0 rfl (leK rfl) (leK rfl) (leK rfl) (tf_Mo_readNumber hc0 (inRk rfl) h_p31 e_p32) (kcB ?_)
      refine vg_ifB_ne (pc := 54) (b := p32.1) (t := 59) (dK D_Mo_readPlace_0 32 rfl) rfl (fun hc33 => ?_) (fun hc33 => ?_)
      · replace h := ifP h hc33
        refine g_iloadn (pc := 59) (i0 := 1) (j := 3) (dK D_Mo_readPlace_0 35 rfl) rfl rfl ?_
        refine vg_if_eq (pc := 60) (t := 76) (dK D_Mo_readPlace_0 36 rfl) rfl ha1 (fun hc36 => ?_) (fun hc36 => ?_)
        · replace h := ifP h hc36
          refine vg_sipush (pc := 76) (dK D_Mo_readPlace_0 45 rfl) rfl ?_
          refine vg_iconst (pc := 79) (dK D_Mo_readPlace_0 46 rfl) ?_
          refine g_iloadn (pc := 80) (i0 := 2) (j := 1) (dK D_Mo_readPlace_0 47 rfl) rfl rfl ?_
          refine vg_imul (pc := 81) (dK D_Mo_readPlace_0 48 rfl) ?_
          refine vg_iadd (pc := 82) (dK D_Mo_readPlace_0 49 rfl) ?_
          refine vg_iconst (pc := 83) (dK D_Mo_readPlace_1 0 rfl) ?_
          refine vg_iadd (pc := 84) (dK D_Mo_readPlace_1 1 rfl) ?_
          refine nmE h (fun v34 e_v34 h => ?_)
          refine gtop e_v34 ?_
          refine gL_weak (ls' := [(0, .ref c0), (1, V a1), (2, V (g p29.2 c0 20)), (3, V (g p29.2 c0 19))]) (sbc 2 rfl (sbc 3 rfl (sbc 1 rfl (sbc 0 rfl sbn)))) ?_
          exact tj_Mo_readPlace_85 hc0 ha1 (g_in _ _ _) (g_in _ _ _) (Vn_in e_v34) h
        · replace h := ifN h hc36
          refine vg_bipush (pc := 63) (dK D_Mo_readPlace_0 37 rfl) rfl ?_
          refine vg_bipush (pc := 65) (dK D_Mo_readPlace_0 38 rfl) rfl ?_
          refine g_iloadn (pc := 67) (i0 := 2) (j := 1) (dK D_Mo_readPlace_0 39 rfl) rfl rfl ?_
          refine vg_imul (pc := 68) (dK D_Mo_readPlace_0 40 rfl) ?_
          refine vg_iadd (pc := 69) (dK D_Mo_readPlace_0 41 rfl) ?_
          refine vg_bipush (pc := 70) (dK D_Mo_readPlace_0 42 rfl) rfl ?_
          refine vg_iadd (pc := 72) (dK D_Mo_readPlace_0 43 rfl) ?_
          refine g_goto (pc := 73) (tgt := 85) (dK D_Mo_readPlace_0 44 rfl) rfl ?_
          refine nmE h (fun v35 e_v35 h => ?_)
          refine gtop e_v35 ?_
          refine gL_weak (ls' := [(0, .ref c0), (1, V a1), (2, V (g p29.2 c0 20)), (3, V (g p29.2 c0 19))]) (sbc 2 rfl (sbc 3 rfl (sbc 1 rfl (sbc 0 rfl sbn)))) ?_
          exact tj_Mo_readPlace_85 hc0 ha1 (g_in _ _ _) (g_in _ _ _) (Vn_in e_v35) h
      · replace h := ifN h hc33
        refine vg_iconst (pc := 57) (dK D_Mo_readPlace_0 33 rfl) ?_
        exact vg_iretB (pc := 58) (b := false) (dK D_Mo_readPlace_0 34 rfl) rfl (leK rfl) (leK rfl) (fun _ => rfl) (by obtain rfl := Option.some.inj h; exact ⟨rfl, rfl⟩)
    · replace h := ifN h hc30
      refine vg_iconst (pc := 33) (dK D_Mo_readPlace_0 19 rfl) ?_
      exact vg_iretB (pc := 34) (b := false) (dK D_Mo_readPlace_0 20 rfl) rfl (leK rfl) (leK rfl) (fun _ => rfl) (by obtain rfl := Option.some.inj h; exact ⟨rfl, rfl⟩)
def fn_Mo_readStatement (c0 : Nat) (S : St) : Option (Bool × St) := bnO (fn_Mo_pack 99 111 108 111 114 S) fun p1 => bnO (fn_Mo_isWord c0 p1 S) fun p2 => if p2 = true then (bnO (fn_Mo_readColor c0 S) fun p30 => some (p30.1, p30.2)) else (bnO (fn_Mo_pack 97 100 0 0 0 S) fun p4 => bnO (fn_Mo_isWord c0 p4 S) fun p5 => if p5 = true then (bnO (fn_Mo_readAd c0 S) fun p29 => some (p29.1, p29.2)) else (bnO (fn_Mo_pack 115 116 111 114 121 S) fun p7 => bnO (fn_Mo_isWord c0 p7 S) fun p8 => if p8 = true then (bnO (fn_Mo_readStory c0 S) fun p28 => some (p28.1, p28.2)) else (bnO (fn_Mo_pack 115 116 97 110 100 S) fun p10 => nm (wl ((((p10 * 1024) + 64) + 121) - 96)) fun v11 => bnO (fn_Mo_isWord c0 v11 S) fun p12 => if p12 = true then (bnO (fn_Mo_readStandby c0 S) fun p27 => some (p27.1, p27.2)) else (bnO (fn_Mo_pack 99 108 111 115 101 S) fun p14 => bnO (fn_Mo_isWord c0 p14 S) fun p15 => if p15 = true then (bnO (fn_Mo_readClosing c0 S) fun p26 => some (p26.1, p26.2)) else (bnO (fn_Mo_pack 112 117 116 0 0 S) fun p17 => bnO (fn_Mo_isWord c0 p17 S) fun p18 => if p18 = true then (bnO (fn_Mo_readPlace c0 1 S) fun p25 => some (p25.1, p25.2)) else (bnO (fn_Mo_pack 108 97 121 0 0 S) fun p20 => bnO (fn_Mo_isWord c0 p20 S) fun p21 => if p21 = true then (bnO (fn_Mo_readPlace c0 0 S) fun p24 => some (p24.1, p24.2)) else (bnO (fn_Mo_fail c0 1 S) fun p23 => some (p23.1, p23.2))))))))
set_option maxHeartbeats 20000000 in
theorem tf_Mo_readStatement {E : EV} {X : XT} {c0 : Nat} (hc0 : HC X 11 c0) {S : St} {q : Bool × St} (h : fn_Mo_readStatement c0 S = some q) : Ev E M_Mo_readStatement [.ref c0] (WX X S) 0 0 (KB X q.1 q.2) := by
  refine Ev.of pn_Mo rfl (leK rfl) ?_
  show Go E M_Mo_readStatement 0 0 0 [(0, .ref c0)] [] (WX X S) 0 0 (KB X q.1 q.2)
  unfold fn_Mo_readStatement at h
  refine g_aloadn (pc := 0) (i0 := 0) (j := 0) (dK D_Mo_readStatement_0 0 rfl) rfl rfl ?_
  refine vg_bipush (pc := 1) (dK D_Mo_readStatement_0 1 rfl) rfl ?_
  refine vg_bipush (pc := 3) (dK D_Mo_readStatement_0 2 rfl) rfl ?_
  refine vg_bipush (pc := 5) (dK D_Mo_readStatement_0 3 rfl) rfl ?_
  refine vg_bipush (pc := 7) (dK D_Mo_readStatement_0 4 rfl) rfl ?_
  refine vg_bipush (pc := 9) (dK D_Mo_readStatement_0 5 rfl) rfl ?_
  refine bnE h (fun p1 e_p1 h => ?_)
  refine vg_cS (pc := 11) (As := [V 99, V 111, V 108, V 111, V 114]) (rest := [.ref c0]) (mc' := 0) (ms' := 0) (dK D_Mo_readStatement_0 6 rfl) K_Mo_376 (fitK rfl) rfl (leK rfl) (leK rfl) (leK rfl) (tf_Mo_pack (inRk rfl) (inRk rfl) (inRk rfl) (inRk rfl) (inRk rfl) e_p1) (kcJ (fun h_p1 => ?_))
  refine bnE h (fun p2 e_p2 h => ?_)
  refine vg_cV (pc := 14) (As := [J p1]) (rest := []) (mc' := 0) (ms' := 0) (dK D_Mo_readStatement_0 7 rfl) K_Mo_380 (fitK rfl) (ltK rfl) hc0 rfl (leK rfl) (leK rfl) (leK rfl) (tf_Mo_isWord hc0 h_p1 e_p2) (kcB ?_)
  refine vg_ifB_eq (pc := 17) (b := p2) (t := 25) (dK D_Mo_readStatement_0 8 rfl) rfl (fun hc3 => ?_) (fun hc3 => ?_)
  · replace h := ifP h hc3
    refine g_aloadn (pc := 20) (i0 := 0) (j := 0) (dK D_Mo_readStatement_0 9 rfl) rfl rfl ?_
    refine bnE h (fun p30 e_p30 h => ?_)
    refine vg_cV (pc := 21) (As := []) (rest := []) (mc' := 0) (ms' := 0) (dK D_Mo_readStatement_0 10 rfl) K_Mo_384 (fitK rfl) (ltK rfl) hc0 rfl (leK rfl) (leK rfl) (leK rfl) (tf_Mo_readColor hc0 e_p30) (kcB ?_)
    exact vg_iretB (pc := 24) (b := p30.1) (dK D_Mo_readStatement_0 11 rfl) rfl (leK rfl) (leK rfl) (fun _ => rfl) (by obtain rfl := Option.some.inj h; exact ⟨rfl, rfl⟩)
  · replace h := ifN h hc3
    refine g_aloadn (pc := 25) (i0 := 0) (j := 0) (dK D_Mo_readStatement_0 12 rfl) rfl rfl ?_
    refine vg_bipush (pc := 26) (dK D_Mo_readStatement_0 13 rfl) rfl ?_
    refine vg_bipush (pc := 28) (dK D_Mo_readStatement_0 14 rfl) rfl ?_
    refine vg_iconst (pc := 30) (dK D_Mo_readStatement_0 15 rfl) ?_
    refine vg_iconst (pc := 31) (dK D_Mo_readStatement_0 16 rfl) ?_
    refine vg_iconst (pc := 32) (dK D_Mo_readStatement_0 17 rfl) ?_
    refine bnE h (fun p4 e_p4 h => ?_)
    refine vg_cS (pc := 33) (As := [V 97, V 100, V 0, V 0, V 0]) (rest := [.ref c0]) (mc' := 0) (ms' := 0) (dK D_Mo_readStatement_0 18 rfl) K_Mo_376 (fitK rfl) rfl (leK rfl) (leK rfl) (leK rfl) (tf_Mo_pack (inRk rfl) (inRk rfl) (inRk rfl) (inRk rfl) (inRk rfl) e_p4) (kcJ (fun h_p4 => ?_))
    refine bnE h (fun p5 e_p5 h => ?_)
    refine vg_cV (pc := 36) (As := [J p4]) (rest := []) (mc' := 0) (ms' := 0) (dK D_Mo_readStatement_0 19 rfl) K_Mo_380 (fitK rfl) (ltK rfl) hc0 rfl (leK rfl) (leK rfl) (leK rfl) (tf_Mo_isWord hc0 h_p4 e_p5) (kcB ?_)
    refine vg_ifB_eq (pc := 39) (b := p5) (t := 47) (dK D_Mo_readStatement_0 20 rfl) rfl (fun hc6 => ?_) (fun hc6 => ?_)
    · replace h := ifP h hc6
      refine g_aloadn (pc := 42) (i0 := 0) (j := 0) (dK D_Mo_readStatement_0 21 rfl) rfl rfl ?_
      refine bnE h (fun p29 e_p29 h => ?_)
      refine vg_cV (pc := 43) (As := []) (rest := []) (mc' := 0) (ms' := 0) (dK D_Mo_readStatement_0 22 rfl) K_Mo_387 (fitK rfl) (ltK rfl) hc0 rfl (leK rfl) (leK rfl) (leK rfl) (tf_Mo_readAd hc0 e_p29) (kcB ?_)
      exact vg_iretB (pc := 46) (b := p29.1) (dK D_Mo_readStatement_0 23 rfl) rfl (leK rfl) (leK rfl) (fun _ => rfl) (by obtain rfl := Option.some.inj h; exact ⟨rfl, rfl⟩)
    · replace h := ifN h hc6
      refine g_aloadn (pc := 47) (i0 := 0) (j := 0) (dK D_Mo_readStatement_0 24 rfl) rfl rfl ?_
      refine vg_bipush (pc := 48) (dK D_Mo_readStatement_0 25 rfl) rfl ?_
      refine vg_bipush (pc := 50) (dK D_Mo_readStatement_0 26 rfl) rfl ?_
      refine vg_bipush (pc := 52) (dK D_Mo_readStatement_0 27 rfl) rfl ?_
      refine vg_bipush (pc := 54) (dK D_Mo_readStatement_0 28 rfl) rfl ?_
      refine vg_bipush (pc := 56) (dK D_Mo_readStatement_0 29 rfl) rfl ?_
      refine bnE h (fun p7 e_p7 h => ?_)
      refine vg_cS (pc := 58) (As := [V 115, V 116, V 111, V 114, V 121]) (rest := [.ref c0]) (mc' := 0) (ms' := 0) (dK D_Mo_readStatement_0 30 rfl) K_Mo_376 (fitK rfl) rfl (leK rfl) (leK rfl) (leK rfl) (tf_Mo_pack (inRk rfl) (inRk rfl) (inRk rfl) (inRk rfl) (inRk rfl) e_p7) (kcJ (fun h_p7 => ?_))
      refine bnE h (fun p8 e_p8 h => ?_)
      refine vg_cV (pc := 61) (As := [J p7]) (rest := []) (mc' := 0) (ms' := 0) (dK D_Mo_readStatement_0 31 rfl) K_Mo_380 (fitK rfl) (ltK rfl) hc0 rfl (leK rfl) (leK rfl) (leK rfl) (tf_Mo_isWord hc0 h_p7 e_p8) (kcB ?_)
      refine vg_ifB_eq (pc := 64) (b := p8) (t := 72) (dK D_Mo_readStatement_0 32 rfl) rfl (fun hc9 => ?_) (fun hc9 => ?_)
      · replace h := ifP h hc9
        refine g_aloadn (pc := 67) (i0 := 0) (j := 0) (dK D_Mo_readStatement_0 33 rfl) rfl rfl ?_
        refine bnE h (fun p28 e_p28 h => ?_)
        refine vg_cV (pc := 68) (As := []) (rest := []) (mc' := 0) (ms' := 0) (dK D_Mo_readStatement_0 34 rfl) K_Mo_390 (fitK rfl) (ltK rfl) hc0 rfl (leK rfl) (leK rfl) (leK rfl) (tf_Mo_readStory hc0 e_p28) (kcB ?_)
        exact vg_iretB (pc := 71) (b := p28.1) (dK D_Mo_readStatement_0 35 rfl) rfl (leK rfl) (leK rfl) (fun _ => rfl) (by obtain rfl := Option.some.inj h; exact ⟨rfl, rfl⟩)
      · replace h := ifN h hc9
        refine g_aloadn (pc := 72) (i0 := 0) (j := 0) (dK D_Mo_readStatement_0 36 rfl) rfl rfl ?_
        refine vg_bipush (pc := 73) (dK D_Mo_readStatement_0 37 rfl) rfl ?_
        refine vg_bipush (pc := 75) (dK D_Mo_readStatement_0 38 rfl) rfl ?_
        refine vg_bipush (pc := 77) (dK D_Mo_readStatement_0 39 rfl) rfl ?_
        refine vg_bipush (pc := 79) (dK D_Mo_readStatement_0 40 rfl) rfl ?_
        refine vg_bipush (pc := 81) (dK D_Mo_readStatement_0 41 rfl) rfl ?_
        refine bnE h (fun p10 e_p10 h => ?_)
        refine vg_cS (pc := 83) (As := [V 115, V 116, V 97, V 110, V 100]) (rest := [.ref c0]) (mc' := 0) (ms' := 0) (dK D_Mo_readStatement_0 42 rfl) K_Mo_376 (fitK rfl) rfl (leK rfl) (leK rfl) (leK rfl) (tf_Mo_pack (inRk rfl) (inRk rfl) (inRk rfl) (inRk rfl) (inRk rfl) e_p10) (kcJ (fun h_p10 => ?_))
        refine vg_ldc2 (pc := 86) (y := 1024) (dK D_Mo_readStatement_0 43 rfl) q_2113 rfl ?_
        refine vg_lmul (pc := 89) (dK D_Mo_readStatement_0 44 rfl) ?_
        refine vg_ldc2 (pc := 90) (y := 64) (dK D_Mo_readStatement_0 45 rfl) q_1986 rfl ?_
        refine vg_ladd (pc := 93) (dK D_Mo_readStatement_0 46 rfl) ?_
        refine vg_ldc2 (pc := 94) (y := 121) (dK D_Mo_readStatement_0 47 rfl) q_2114 rfl ?_
        refine vg_ladd (pc := 97) (dK D_Mo_readStatement_0 48 rfl) ?_
        refine vg_ldc2 (pc := 98) (y := 96) (dK D_Mo_readStatement_0 49 rfl) q_2062 rfl ?_
        refine vg_lsub (pc := 101) (dK D_Mo_readStatement_1 0 rfl) ?_
        refine nmE h (fun v11 e_v11 h => ?_)
        refine gtopJ e_v11 ?_
        refine bnE h (fun p12 e_p12 h => ?_)
        refine vg_cV (pc := 102) (As := [J v11]) (rest := []) (mc' := 0) (ms' := 0) (dK D_Mo_readStatement_1 1 rfl) K_Mo_380 (fitK rfl) (ltK rfl) hc0 rfl (leK rfl) (leK rfl) (leK rfl) (tf_Mo_isWord hc0 (Jn_in e_v11) e_p12) (kcB ?_)
        refine vg_ifB_eq (pc := 105) (b := p12) (t := 113) (dK D_Mo_readStatement_1 2 rfl) rfl (fun hc13 => ?_) (fun hc13 => ?_)
        · replace h := ifP h hc13
          refine g_aloadn (pc := 108) (i0 := 0) (j := 0) (dK D_Mo_readStatement_1 3 rfl) rfl rfl ?_
          refine bnE h (fun p27 e_p27 h => ?_)
          refine vg_cV (pc := 109) (As := []) (rest := []) (mc' := 0) (ms' := 0) (dK D_Mo_readStatement_1 4 rfl) K_Mo_397 (fitK rfl) (ltK rfl) hc0 rfl (leK rfl) (leK rfl) (leK rfl) (tf_Mo_readStandby hc0 e_p27) (kcB ?_)
          exact vg_iretB (pc := 112) (b := p27.1) (dK D_Mo_readStatement_1 5 rfl) rfl (leK rfl) (leK rfl) (fun _ => rfl) (by obtain rfl := Option.some.inj h; exact ⟨rfl, rfl⟩)
        · replace h := ifN h hc13
          refine g_aloadn (pc := 113) (i0 := 0) (j := 0) (dK D_Mo_readStatement_1 6 rfl) rfl rfl ?_
          refine vg_bipush (pc := 114) (dK D_Mo_readStatement_1 7 rfl) rfl ?_
          refine vg_bipush (pc := 116) (dK D_Mo_readStatement_1 8 rfl) rfl ?_
          refine vg_bipush (pc := 118) (dK D_Mo_readStatement_1 9 rfl) rfl ?_
          refine vg_bipush (pc := 120) (dK D_Mo_readStatement_1 10 rfl) rfl ?_
          refine vg_bipush (pc := 122) (dK D_Mo_readStatement_1 11 rfl) rfl ?_
          refine bnE h (fun p14 e_p14 h => ?_)
          refine vg_cS (pc := 124) (As := [V 99, V 108, V 111, V 115, V 101]) (rest := [.ref c0]) (mc' := 0) (ms' := 0) (dK D_Mo_readStatement_1 12 rfl) K_Mo_376 (fitK rfl) rfl (leK rfl) (leK rfl) (leK rfl) (tf_Mo_pack (inRk rfl) (inRk rfl) (inRk rfl) (inRk rfl) (inRk rfl) e_p14) (kcJ (fun h_p14 => ?_))
          refine bnE h (fun p15 e_p15 h => ?_)
          refine vg_cV (pc := 127) (As := [J p14]) (rest := []) (mc' := 0) (ms' := 0) (dK D_Mo_readStatement_1 13 rfl) K_Mo_380 (fitK rfl) (ltK rfl) hc0 rfl (leK rfl) (leK rfl) (leK rfl) (tf_Mo_isWord hc0 h_p14 e_p15) (kcB ?_)
          refine vg_ifB_eq (pc := 130) (b := p15) (t := 138) (dK D_Mo_readStatement_1 14 rfl) rfl (fun hc16 => ?_) (fun hc16 => ?_)
          · replace h := ifP h hc16
            refine g_aloadn (pc := 133) (i0 := 0) (j := 0) (dK D_Mo_readStatement_1 15 rfl) rfl rfl ?_
            refine bnE h (fun p26 e_p26 h => ?_)
            refine vg_cV (pc := 134) (As := []) (rest := []) (mc' := 0) (ms' := 0) (dK D_Mo_readStatement_1 16 rfl) K_Mo_400 (fitK rfl) (ltK rfl) hc0 rfl (leK rfl) (leK rfl) (leK rfl) (tf_Mo_readClosing hc0 e_p26) (kcB ?_)
            exact vg_iretB (pc := 137) (b := p26.1) (dK D_Mo_readStatement_1 17 rfl) rfl (leK rfl) (leK rfl) (fun _ => rfl) (by obtain rfl := Option.some.inj h; exact ⟨rfl, rfl⟩)
          · replace h := ifN h hc16
            refine g_aloadn (pc := 138) (i0 := 0) (j := 0) (dK D_Mo_readStatement_1 18 rfl) rfl rfl ?_
            refine vg_bipush (pc := 139) (dK D_Mo_readStatement_1 19 rfl) rfl ?_
            refine vg_bipush (pc := 141) (dK D_Mo_readStatement_1 20 rfl) rfl ?_
            refine vg_bipush (pc := 143) (dK D_Mo_readStatement_1 21 rfl) rfl ?_
            refine vg_iconst (pc := 145) (dK D_Mo_readStatement_1 22 rfl) ?_
            refine vg_iconst (pc := 146) (dK D_Mo_readStatement_1 23 rfl) ?_
            refine bnE h (fun p17 e_p17 h => ?_)
            refine vg_cS (pc := 147) (As := [V 112, V 117, V 116, V 0, V 0]) (rest := [.ref c0]) (mc' := 0) (ms' := 0) (dK D_Mo_readStatement_1 24 rfl) K_Mo_376 (fitK rfl) rfl (leK rfl) (leK rfl) (leK rfl) (tf_Mo_pack (inRk rfl) (inRk rfl) (inRk rfl) (inRk rfl) (inRk rfl) e_p17) (kcJ (fun h_p17 => ?_))
            refine bnE h (fun p18 e_p18 h => ?_)
            refine vg_cV (pc := 150) (As := [J p17]) (rest := []) (mc' := 0) (ms' := 0) (dK D_Mo_readStatement_1 25 rfl) K_Mo_380 (fitK rfl) (ltK rfl) hc0 rfl (leK rfl) (leK rfl) (leK rfl) (tf_Mo_isWord hc0 h_p17 e_p18) (kcB ?_)
            refine vg_ifB_eq (pc := 153) (b := p18) (t := 162) (dK D_Mo_readStatement_1 26 rfl) rfl (fun hc19 => ?_) (fun hc19 => ?_)
            · replace h := ifP h hc19
              refine g_aloadn (pc := 156) (i0 := 0) (j := 0) (dK D_Mo_readStatement_1 27 rfl) rfl rfl ?_
              refine vg_iconst (pc := 157) (dK D_Mo_readStatement_1 28 rfl) ?_
              refine bnE h (fun p25 e_p25 h => ?_)
              refine vg_cV (pc := 158) (As := [V 1]) (rest := []) (mc' := 0) (ms' := 0) (dK D_Mo_readStatement_1 29 rfl) K_Mo_403 (fitK rfl) (ltK rfl) hc0 rfl (leK rfl) (leK rfl) (leK rfl) (tf_Mo_readPlace hc0 (inRk rfl) e_p25) (kcB ?_)
              exact vg_iretB (pc := 161) (b := p25.1) (dK D_Mo_readStatement_1 30 rfl) rfl (leK rfl) (leK rfl) (fun _ => rfl) (by obtain rfl := Option.some.inj h; exact ⟨rfl, rfl⟩)
            · replace h := ifN h hc19
              refine g_aloadn (pc := 162) (i0 := 0) (j := 0) (dK D_Mo_readStatement_1 31 rfl) rfl rfl ?_
              refine vg_bipush (pc := 163) (dK D_Mo_readStatement_1 32 rfl) rfl ?_
              refine vg_bipush (pc := 165) (dK D_Mo_readStatement_1 33 rfl) rfl ?_
              refine vg_bipush (pc := 167) (dK D_Mo_readStatement_1 34 rfl) rfl ?_
              refine vg_iconst (pc := 169) (dK D_Mo_readStatement_1 35 rfl) ?_
              refine vg_iconst (pc := 170) (dK D_Mo_readStatement_1 36 rfl) ?_
              refine bnE h (fun p20 e_p20 h => ?_)
              refine vg_cS (pc := 171) (As := [V 108, V 97, V 121, V 0, V 0]) (rest := [.ref c0]) (mc' := 0) (ms' := 0) (dK D_Mo_readStatement_1 37 rfl) K_Mo_376 (fitK rfl) rfl (leK rfl) (leK rfl) (leK rfl) (tf_Mo_pack (inRk rfl) (inRk rfl) (inRk rfl) (inRk rfl) (inRk rfl) e_p20) (kcJ (fun h_p20 => ?_))
              refine bnE h (fun p21 e_p21 h => ?_)
              refine vg_cV (pc := 174) (As := [J p20]) (rest := []) (mc' := 0) (ms' := 0) (dK D_Mo_readStatement_1 38 rfl) K_Mo_380 (fitK rfl) (ltK rfl) hc0 rfl (leK rfl) (leK rfl) (leK rfl) (tf_Mo_isWord hc0 h_p20 e_p21) (kcB ?_)
              refine vg_ifB_eq (pc := 177) (b := p21) (t := 188) (dK D_Mo_readStatement_1 39 rfl) rfl (fun hc22 => ?_) (fun hc22 => ?_)
              · replace h := ifP h hc22
                refine g_aloadn (pc := 180) (i0 := 0) (j := 0) (dK D_Mo_readStatement_1 40 rfl) rfl rfl ?_
                refine vg_iconst (pc := 181) (dK D_Mo_readStatement_1 41 rfl) ?_
                refine bnE h (fun p24 e_p24 h => ?_)
                refine vg_cV (pc := 182) (As := [V 0]) (rest := []) (mc' := 0) (ms' := 0) (dK D_Mo_readStatement_1 42 rfl) K_Mo_403 (fitK rfl) (ltK rfl) hc0 rfl (leK rfl) (leK rfl) (leK rfl) (tf_Mo_readPlace hc0 (inRk rfl) e_p24) (kcB ?_)
                refine g_goto (pc := 185) (tgt := 193) (dK D_Mo_readStatement_1 43 rfl) rfl ?_
                exact vg_iretB (pc := 193) (b := p24.1) (dK D_Mo_readStatement_1 47 rfl) rfl (leK rfl) (leK rfl) (fun _ => rfl) (by obtain rfl := Option.some.inj h; exact ⟨rfl, rfl⟩)
              · replace h := ifN h hc22
                refine g_aloadn (pc := 188) (i0 := 0) (j := 0) (dK D_Mo_readStatement_1 44 rfl) rfl rfl ?_
                refine vg_iconst (pc := 189) (dK D_Mo_readStatement_1 45 rfl) ?_
                refine bnE h (fun p23 e_p23 h => ?_)
                refine vg_cV (pc := 190) (As := [V 1]) (rest := []) (mc' := 0) (ms' := 0) (dK D_Mo_readStatement_1 46 rfl) K_Mo_349 (fitK rfl) (ltK rfl) hc0 rfl (leK rfl) (leK rfl) (leK rfl) (tf_Mo_fail hc0 (inRk rfl) e_p23) (kcB ?_)
                exact vg_iretB (pc := 193) (b := p23.1) (dK D_Mo_readStatement_1 47 rfl) rfl (leK rfl) (leK rfl) (fun _ => rfl) (by obtain rfl := Option.some.inj h; exact ⟨rfl, rfl⟩)
def lb_Mo_load_91 (c0 : Nat) (a1 : Int) (a2 : Int) (go : Int × Int × St → Option (Int × Int × St)) (a3 : Int) (a4 : Int) (S : St) : Option (Int × Int × St) := if a3 = 0 then (some (a3, a4, S)) else (if (g S c0 18) = 0 then (some (a3, a4, S)) else (bnO (fn_Mo_readStatement c0 S) fun p13 => nm (wr (a4 + 1)) fun v14 => go ((bi p13.1), v14, p13.2)))
def lo_Mo_load_91 (c0 : Nat) (a1 : Int) (a2 : Int) : Nat → Int × Int × St → Option (Int × Int × St) := lp fun go p => lb_Mo_load_91 c0 a1 a2 go p.1 p.2.1 p.2.2
theorem tl_Mo_load_91 {E : EV} {X : XT} {c0 : Nat} (hc0 : HC X 11 c0) {a1 : Int} (ha1 : inR a1) {a2 : Int} (ha2 : inR a2) {K : RK → PS → Prop} {q : Int × Int × St} (hx : inR q.1 → inR q.2.1 → Go E M_Mo_load 0 0 113 [(0, .ref c0), (1, V a1), (2, V a2), (3, V q.1), (4, V q.2.1)] [] (WX X q.2.2) 0 0 K) : ∀ n a, lo_Mo_load_91 c0 a1 a2 n a = some q → inR a.1 → inR a.2.1 → Go E M_Mo_load 0 0 91 [(0, .ref c0), (1, V a1), (2, V a2), (3, V a.1), (4, V a.2.1)] [] (WX X a.2.2) 0 0 K := by
  refine lp_ind (P := fun a : Int × Int × St => inR a.1 → inR a.2.1 → Go E M_Mo_load 0 0 91 [(0, .ref c0), (1, V a1), (2, V a2), (3, V a.1), (4, V a.2.1)] [] (WX X a.2.2) 0 0 K) (fun go ih a h => ?_)
  obtain ⟨a3, a4, S⟩ := a
  intro ha3 ha4
  show Go E M_Mo_load 0 0 91 [(0, .ref c0), (1, V a1), (2, V a2), (3, V a3), (4, V a4)] [] (WX X S) 0 0 K
  replace h : lb_Mo_load_91 c0 a1 a2 go a3 a4 S = some q := h
  unfold lb_Mo_load_91 at h
  refine g_iloadn (pc := 91) (i0 := 3) (j := 3) (dK D_Mo_load_1 1 rfl) rfl rfl ?_
  refine vg_if_eq (pc := 92) (t := 113) (dK D_Mo_load_1 2 rfl) rfl ha3 (fun hc16 => ?_) (fun hc16 => ?_)
  · replace h := ifP h hc16
    obtain rfl := Option.some.inj h
    exact hx ha3 ha4
  · replace h := ifN h hc16
    refine g_aloadn (pc := 95) (i0 := 0) (j := 0) (dK D_Mo_load_1 3 rfl) rfl rfl ?_
    refine vg_getI (pc := 96) (ci := 11) (f := 18) (dK D_Mo_load_1 4 rfl) q_1460 hc0 (ltK rfl) (ltK rfl) rfl ?_
    refine vg_if_eq (pc := 99) (t := 113) (dK D_Mo_load_1 5 rfl) rfl (g_in _ _ _) (fun hc15 => ?_) (fun hc15 => ?_)
    · replace h := ifP h hc15
      obtain rfl := Option.some.inj h
      exact hx ha3 ha4
    · replace h := ifN h hc15
      refine g_aloadn (pc := 102) (i0 := 0) (j := 0) (dK D_Mo_load_1 6 rfl) rfl rfl ?_
      refine bnE h (fun p13 e_p13 h => ?_)
      refine vg_cV (pc := 103) (As := []) (rest := []) (mc' := 0) (ms' := 0) (dK D_Mo_load_1 7 rfl) K_Mo_410 (fitK rfl) (ltK rfl) hc0 rfl (leK rfl) (leK rfl) (leK rfl) (tf_Mo_readStatement hc0 e_p13) (kcB ?_)
      refine g_istoren (pc := 106) (i0 := 3) (ls2 := [(3, V (bi p13.1)), (0, .ref c0), (1, V a1), (2, V a2), (4, V a4)]) (dK D_Mo_load_1 8 rfl) rfl (ltK rfl) rfl ?_
      refine nmE h (fun v14 e_v14 h => ?_)
      refine vg_iinc (pc := 107) (j := 4) (a := a4) (z := 1) (ls2 := [(4, V v14), (3, V (bi p13.1)), (0, .ref c0), (1, V a1), (2, V a2)]) (dK D_Mo_load_1 9 rfl) rfl e_v14 (ltK rfl) rfl ?_
      refine g_goto (pc := 110) (tgt := 91) (dK D_Mo_load_1 10 rfl) rfl ?_
      refine gL_weak (ls' := [(0, .ref c0), (1, V a1), (2, V a2), (3, V (bi p13.1)), (4, V v14)]) (sbc 2 rfl (sbc 3 rfl (sbc 4 rfl (sbc 1 rfl (sbc 0 rfl sbn))))) ?_
      replace h := ih _ h
      exact h (bi_in _) (Vn_in e_v14)
def fn_Mo_load (c0 : Nat) (S : St) : Option (Int × St) := nm (u S c0 4 0) fun S1 => bnO (fn_Mo_copyBlock c0 0 1 S1) fun p2 => bnO (fn_Mo_clearBlock c0 0 p2) fun p3 => nm (u p3 c0 1 1) fun S4 => nm (u S4 c0 2 16) fun S5 => nm (u S5 c0 16 0) fun S6 => nm (u S6 c0 17 (-1)) fun S7 => nm (u S7 c0 15 0) fun S8 => bnO (fn_Mo_advance c0 S8) fun p9 => bnO (fn_Mo_pack 112 108 97 110 0 p9) fun p10 => bnO (fn_Mo_isWord c0 p10 p9) fun p11 => if p11 = true then (bnO (fn_Mo_readPlan c0 p9) fun p24 => if p24.1 = true then (bnO (lo_Mo_load_91 c0 (g S1 c0 1) (g S1 c0 2) FU (1, 0, p24.2)) fun p33 => nm (u p33.2.2 c0 14 0) fun S34 => if p33.1 = 0 then (bnO (fn_Mo_copyBlock c0 1 0 S34) fun p35 => nm (u p35 c0 1 (g S1 c0 1)) fun S36 => nm (u S36 c0 2 (g S1 c0 2)) fun S37 => some ((-3), S37)) else (nm (u S34 c0 3 0) fun S38 => some (p33.2.1, S38))) else (bnO (lo_Mo_load_91 c0 (g S1 c0 1) (g S1 c0 2) FU (0, 0, p24.2)) fun p26 => nm (u p26.2.2 c0 14 0) fun S27 => if p26.1 = 0 then (bnO (fn_Mo_copyBlock c0 1 0 S27) fun p28 => nm (u p28 c0 1 (g S1 c0 1)) fun S29 => nm (u S29 c0 2 (g S1 c0 2)) fun S30 => some ((-3), S30)) else (nm (u S27 c0 3 0) fun S31 => some (p26.2.1, S31)))) else (bnO (lo_Mo_load_91 c0 (g S1 c0 1) (g S1 c0 2) FU (1, 0, p9)) fun p17 => nm (u p17.2.2 c0 14 0) fun S18 => if p17.1 = 0 then (bnO (fn_Mo_copyBlock c0 1 0 S18) fun p19 => nm (u p19 c0 1 (g S1 c0 1)) fun S20 => nm (u S20 c0 2 (g S1 c0 2)) fun S21 => some ((-3), S21)) else (nm (u S18 c0 3 0) fun S22 => some (p17.2.1, S22)))
set_option maxHeartbeats 20000000 in
theorem tf_Mo_load {E : EV} {X : XT} {c0 : Nat} (hc0 : HC X 11 c0) {S : St} {q : Int × St} (h : fn_Mo_load c0 S = some q) : Ev E M_Mo_load [.ref c0] (WX X S) 0 0 (KI X q.1 q.2) := by
  refine Ev.of pn_Mo rfl (leK rfl) ?_
  show Go E M_Mo_load 0 0 0 [(0, .ref c0)] [] (WX X S) 0 0 (KI X q.1 q.2)
  unfold fn_Mo_load at h
  refine g_aloadn (pc := 0) (i0 := 0) (j := 0) (dK D_Mo_load_0 0 rfl) rfl rfl ?_
  refine vg_iconst (pc := 1) (dK D_Mo_load_0 1 rfl) ?_
  refine nmE h (fun S1 e_S1 h => ?_)
  refine vg_putI (pc := 2) (ci := 11) (f := 4) (z := 0) (dK D_Mo_load_0 2 rfl) q_1446 hc0 (ltK rfl) (ltK rfl) rfl rfl e_S1 ?_
  refine g_aloadn (pc := 5) (i0 := 0) (j := 0) (dK D_Mo_load_0 3 rfl) rfl rfl ?_
  refine vg_getI (pc := 6) (ci := 11) (f := 1) (dK D_Mo_load_0 4 rfl) q_1443 hc0 (ltK rfl) (ltK rfl) rfl ?_
  refine g_istoren (pc := 9) (i0 := 1) (ls2 := [(1, V (g S1 c0 1)), (0, .ref c0)]) (dK D_Mo_load_0 5 rfl) rfl (ltK rfl) rfl ?_
  refine g_aloadn (pc := 10) (i0 := 0) (j := 1) (dK D_Mo_load_0 6 rfl) rfl rfl ?_
  refine vg_getI (pc := 11) (ci := 11) (f := 2) (dK D_Mo_load_0 7 rfl) q_1444 hc0 (ltK rfl) (ltK rfl) rfl ?_
  refine g_istoren (pc := 14) (i0 := 2) (ls2 := [(2, V (g S1 c0 2)), (1, V (g S1 c0 1)), (0, .ref c0)]) (dK D_Mo_load_0 8 rfl) rfl (ltK rfl) rfl ?_
  refine g_aloadn (pc := 15) (i0 := 0) (j := 2) (dK D_Mo_load_0 9 rfl) rfl rfl ?_
  refine vg_iconst (pc := 16) (dK D_Mo_load_0 10 rfl) ?_
  refine vg_iconst (pc := 17) (dK D_Mo_load_0 11 rfl) ?_
  refine bnE h (fun p2 e_p2 h => ?_)
  refine vg_cV (pc := 18) (As := [V 0, V 1]) (rest := []) (mc' := 0) (ms' := 0) (dK D_Mo_load_0 12 rfl) K_Mo_59 (fitK rfl) (ltK rfl) hc0 rfl (leK rfl) (leK rfl) (leK rfl) (tf_Mo_copyBlock hc0 (inRk rfl) (inRk rfl) e_p2) (kcU ?_)
  refine g_aloadn (pc := 21) (i0 := 0) (j := 2) (dK D_Mo_load_0 13 rfl) rfl rfl ?_
  refine vg_iconst (pc := 22) (dK D_Mo_load_0 14 rfl) ?_
  refine bnE h (fun p3 e_p3 h => ?_)
  refine vg_cV (pc := 23) (As := [V 0]) (rest := []) (mc' := 0) (ms' := 0) (dK D_Mo_load_0 15 rfl) K_Mo_49 (fitK rfl) (ltK rfl) hc0 rfl (leK rfl) (leK rfl) (leK rfl) (tf_Mo_clearBlock hc0 (inRk rfl) e_p3) (kcU ?_)
  refine g_aloadn (pc := 26) (i0 := 0) (j := 2) (dK D_Mo_load_0 16 rfl) rfl rfl ?_
  refine vg_iconst (pc := 27) (dK D_Mo_load_0 17 rfl) ?_
  refine nmE h (fun S4 e_S4 h => ?_)
  refine vg_putI (pc := 28) (ci := 11) (f := 1) (z := 1) (dK D_Mo_load_0 18 rfl) q_1443 hc0 (ltK rfl) (ltK rfl) rfl rfl e_S4 ?_
  refine g_aloadn (pc := 31) (i0 := 0) (j := 2) (dK D_Mo_load_0 19 rfl) rfl rfl ?_
  refine vg_bipush (pc := 32) (dK D_Mo_load_0 20 rfl) rfl ?_
  refine nmE h (fun S5 e_S5 h => ?_)
  refine vg_putI (pc := 34) (ci := 11) (f := 2) (z := 16) (dK D_Mo_load_0 21 rfl) q_1444 hc0 (ltK rfl) (ltK rfl) rfl rfl e_S5 ?_
  refine g_aloadn (pc := 37) (i0 := 0) (j := 2) (dK D_Mo_load_0 22 rfl) rfl rfl ?_
  refine vg_iconst (pc := 38) (dK D_Mo_load_0 23 rfl) ?_
  refine nmE h (fun S6 e_S6 h => ?_)
  refine vg_putI (pc := 39) (ci := 11) (f := 16) (z := 0) (dK D_Mo_load_0 24 rfl) q_1458 hc0 (ltK rfl) (ltK rfl) rfl rfl e_S6 ?_
  refine g_aloadn (pc := 42) (i0 := 0) (j := 2) (dK D_Mo_load_0 25 rfl) rfl rfl ?_
  refine vg_iconst (pc := 43) (dK D_Mo_load_0 26 rfl) ?_
  refine nmE h (fun S7 e_S7 h => ?_)
  refine vg_putI (pc := 44) (ci := 11) (f := 17) (z := (-1)) (dK D_Mo_load_0 27 rfl) q_1459 hc0 (ltK rfl) (ltK rfl) rfl rfl e_S7 ?_
  refine g_aloadn (pc := 47) (i0 := 0) (j := 2) (dK D_Mo_load_0 28 rfl) rfl rfl ?_
  refine vg_iconst (pc := 48) (dK D_Mo_load_0 29 rfl) ?_
  refine nmE h (fun S8 e_S8 h => ?_)
  refine vg_putI (pc := 49) (ci := 11) (f := 15) (z := 0) (dK D_Mo_load_0 30 rfl) q_1457 hc0 (ltK rfl) (ltK rfl) rfl rfl e_S8 ?_
  refine g_aloadn (pc := 52) (i0 := 0) (j := 2) (dK D_Mo_load_0 31 rfl) rfl rfl ?_
  refine bnE h (fun p9 e_p9 h => ?_)
  refine vg_cV (pc := 53) (As := []) (rest := []) (mc' := 0) (ms' := 0) (dK D_Mo_load_0 32 rfl) K_Mo_355 (fitK rfl) (ltK rfl) hc0 rfl (leK rfl) (leK rfl) (leK rfl) (tf_Mo_advance hc0 e_p9) (kcU ?_)
  refine g_aloadn (pc := 56) (i0 := 0) (j := 2) (dK D_Mo_load_0 33 rfl) rfl rfl ?_
  refine vg_bipush (pc := 57) (dK D_Mo_load_0 34 rfl) rfl ?_
  refine vg_bipush (pc := 59) (dK D_Mo_load_0 35 rfl) rfl ?_
  refine vg_bipush (pc := 61) (dK D_Mo_load_0 36 rfl) rfl ?_
  refine vg_bipush (pc := 63) (dK D_Mo_load_0 37 rfl) rfl ?_
  refine vg_iconst (pc := 65) (dK D_Mo_load_0 38 rfl) ?_
  refine bnE h (fun p10 e_p10 h => ?_)
  refine vg_cS (pc := 66) (As := [V 112, V 108, V 97, V 110, V 0]) (rest := [.ref c0]) (mc' := 0) (ms' := 0) (dK D_Mo_load_0 39 rfl) K_Mo_376 (fitK rfl) rfl (leK rfl) (leK rfl) (leK rfl) (tf_Mo_pack (inRk rfl) (inRk rfl) (inRk rfl) (inRk rfl) (inRk rfl) e_p10) (kcJ (fun h_p10 => ?_))
  refine bnE h (fun p11 e_p11 h => ?_)
  refine vg_cV (pc := 69) (As := [J p10]) (rest := []) (mc' := 0) (ms' := 0) (dK D_Mo_load_0 40 rfl) K_Mo_380 (fitK rfl) (ltK rfl) hc0 rfl (leK rfl) (leK rfl) (leK rfl) (tf_Mo_isWord hc0 h_p10 e_p11) (kcB ?_)
  refine vg_ifB_eq (pc := 72) (b := p11) (t := 82) (dK D_Mo_load_0 41 rfl) rfl (fun hc12 => ?_) (fun hc12 => ?_)
  · replace h := ifP h hc12
    refine g_aloadn (pc := 75) (i0 := 0) (j := 2) (dK D_Mo_load_0 42 rfl) rfl rfl ?_
    refine bnE h (fun p24 e_p24 h => ?_)
    refine vg_cV (pc := 76) (As := []) (rest := []) (mc' := 0) (ms' := 0) (dK D_Mo_load_0 43 rfl) K_Mo_407 (fitK rfl) (ltK rfl) hc0 rfl (leK rfl) (leK rfl) (leK rfl) (tf_Mo_readPlan hc0 e_p24) (kcB ?_)
    refine vg_ifB_eq (pc := 79) (b := p24.1) (t := 86) (dK D_Mo_load_0 44 rfl) rfl (fun hc25 => ?_) (fun hc25 => ?_)
    · replace h := ifP h hc25
      refine vg_iconst (pc := 82) (dK D_Mo_load_0 45 rfl) ?_
      refine g_goto (pc := 83) (tgt := 87) (dK D_Mo_load_0 46 rfl) rfl ?_
      refine g_istoren (pc := 87) (i0 := 3) (ls2 := [(3, V 1), (2, V (g S1 c0 2)), (1, V (g S1 c0 1)), (0, .ref c0)]) (dK D_Mo_load_0 48 rfl) rfl (ltK rfl) rfl ?_
      refine vg_iconst (pc := 88) (dK D_Mo_load_0 49 rfl) ?_
      refine g_istore (pc := 89) (ls2 := [(4, V 0), (3, V 1), (2, V (g S1 c0 2)), (1, V (g S1 c0 1)), (0, .ref c0)]) (dK D_Mo_load_1 0 rfl) (ltK rfl) rfl ?_
      refine bnE h (fun p33 e_p33 h => ?_)
      refine gL_weak (ls' := [(0, .ref c0), (1, V (g S1 c0 1)), (2, V (g S1 c0 2)), (3, V 1), (4, V 0)]) (sbc 4 rfl (sbc 3 rfl (sbc 2 rfl (sbc 1 rfl (sbc 0 rfl sbn))))) ?_
      refine tl_Mo_load_91 hc0 (g_in _ _ _) (g_in _ _ _) (fun hx3_p33 hx4_p33 => ?_) FU (1, 0, p24.2) e_p33 (inRk rfl) (inRk rfl)
      refine g_aloadn (pc := 113) (i0 := 0) (j := 0) (dK D_Mo_load_1 11 rfl) rfl rfl ?_
      refine vg_iconst (pc := 114) (dK D_Mo_load_1 12 rfl) ?_
      refine nmE h (fun S34 e_S34 h => ?_)
      refine vg_putI (pc := 115) (ci := 11) (f := 14) (z := 0) (dK D_Mo_load_1 13 rfl) q_1456 hc0 (ltK rfl) (ltK rfl) rfl rfl e_S34 ?_
      refine g_iloadn (pc := 118) (i0 := 3) (j := 3) (dK D_Mo_load_1 14 rfl) rfl rfl ?_
      refine vg_if_eq (pc := 119) (t := 130) (dK D_Mo_load_1 15 rfl) rfl hx3_p33 (fun hc39 => ?_) (fun hc39 => ?_)
      · replace h := ifP h hc39
        refine g_aloadn (pc := 130) (i0 := 0) (j := 0) (dK D_Mo_load_1 21 rfl) rfl rfl ?_
        refine vg_iconst (pc := 131) (dK D_Mo_load_1 22 rfl) ?_
        refine vg_iconst (pc := 132) (dK D_Mo_load_1 23 rfl) ?_
        refine bnE h (fun p35 e_p35 h => ?_)
        refine vg_cV (pc := 133) (As := [V 1, V 0]) (rest := []) (mc' := 0) (ms' := 0) (dK D_Mo_load_1 24 rfl) K_Mo_59 (fitK rfl) (ltK rfl) hc0 rfl (leK rfl) (leK rfl) (leK rfl) (tf_Mo_copyBlock hc0 (inRk rfl) (inRk rfl) e_p35) (kcU ?_)
        refine g_aloadn (pc := 136) (i0 := 0) (j := 0) (dK D_Mo_load_1 25 rfl) rfl rfl ?_
        refine g_iloadn (pc := 137) (i0 := 1) (j := 1) (dK D_Mo_load_1 26 rfl) rfl rfl ?_
        refine nmE h (fun S36 e_S36 h => ?_)
        refine vg_putI (pc := 138) (ci := 11) (f := 1) (z := (g S1 c0 1)) (dK D_Mo_load_1 27 rfl) q_1443 hc0 (ltK rfl) (ltK rfl) rfl rfl e_S36 ?_
        refine g_aloadn (pc := 141) (i0 := 0) (j := 0) (dK D_Mo_load_1 28 rfl) rfl rfl ?_
        refine g_iloadn (pc := 142) (i0 := 2) (j := 2) (dK D_Mo_load_1 29 rfl) rfl rfl ?_
        refine nmE h (fun S37 e_S37 h => ?_)
        refine vg_putI (pc := 143) (ci := 11) (f := 2) (z := (g S1 c0 2)) (dK D_Mo_load_1 30 rfl) q_1444 hc0 (ltK rfl) (ltK rfl) rfl rfl e_S37 ?_
        refine vg_bipush (pc := 146) (dK D_Mo_load_1 31 rfl) rfl ?_
        exact vg_iretI (pc := 148) (r := (-3)) (dK D_Mo_load_1 32 rfl) rfl (leK rfl) (leK rfl) (fun _ => rfl) (by obtain rfl := Option.some.inj h; exact ⟨rfl, (inRk rfl), rfl⟩)
      · replace h := ifN h hc39
        refine g_aloadn (pc := 122) (i0 := 0) (j := 0) (dK D_Mo_load_1 16 rfl) rfl rfl ?_
        refine vg_iconst (pc := 123) (dK D_Mo_load_1 17 rfl) ?_
        refine nmE h (fun S38 e_S38 h => ?_)
        refine vg_putI (pc := 124) (ci := 11) (f := 3) (z := 0) (dK D_Mo_load_1 18 rfl) q_1445 hc0 (ltK rfl) (ltK rfl) rfl rfl e_S38 ?_
        refine g_iload (pc := 127) (j := 4) (dK D_Mo_load_1 19 rfl) rfl ?_
        exact vg_iretI (pc := 129) (r := p33.2.1) (dK D_Mo_load_1 20 rfl) rfl (leK rfl) (leK rfl) (fun _ => rfl) (by obtain rfl := Option.some.inj h; exact ⟨rfl, hx4_p33, rfl⟩)
    · replace h := ifN h hc25
      refine vg_iconst (pc := 86) (dK D_Mo_load_0 47 rfl) ?_
      refine g_istoren (pc := 87) (i0 := 3) (ls2 := [(3, V 0), (2, V (g S1 c0 2)), (1, V (g S1 c0 1)), (0, .ref c0)]) (dK D_Mo_load_0 48 rfl) rfl (ltK rfl) rfl ?_
      refine vg_iconst (pc := 88) (dK D_Mo_load_0 49 rfl) ?_
      refine g_istore (pc := 89) (ls2 := [(4, V 0), (3, V 0), (2, V (g S1 c0 2)), (1, V (g S1 c0 1)), (0, .ref c0)]) (dK D_Mo_load_1 0 rfl) (ltK rfl) rfl ?_
      refine bnE h (fun p26 e_p26 h => ?_)
      refine gL_weak (ls' := [(0, .ref c0), (1, V (g S1 c0 1)), (2, V (g S1 c0 2)), (3, V 0), (4, V 0)]) (sbc 4 rfl (sbc 3 rfl (sbc 2 rfl (sbc 1 rfl (sbc 0 rfl sbn))))) ?_
      refine tl_Mo_load_91 hc0 (g_in _ _ _) (g_in _ _ _) (fun hx3_p26 hx4_p26 => ?_) FU (0, 0, p24.2) e_p26 (inRk rfl) (inRk rfl)
      refine g_aloadn (pc := 113) (i0 := 0) (j := 0) (dK D_Mo_load_1 11 rfl) rfl rfl ?_
      refine vg_iconst (pc := 114) (dK D_Mo_load_1 12 rfl) ?_
      refine nmE h (fun S27 e_S27 h => ?_)
      refine vg_putI (pc := 115) (ci := 11) (f := 14) (z := 0) (dK D_Mo_load_1 13 rfl) q_1456 hc0 (ltK rfl) (ltK rfl) rfl rfl e_S27 ?_
      refine g_iloadn (pc := 118) (i0 := 3) (j := 3) (dK D_Mo_load_1 14 rfl) rfl rfl ?_
      refine vg_if_eq (pc := 119) (t := 130) (dK D_Mo_load_1 15 rfl) rfl hx3_p26 (fun hc32 => ?_) (fun hc32 => ?_)
      · replace h := ifP h hc32
        refine g_aloadn (pc := 130) (i0 := 0) (j := 0) (dK D_Mo_load_1 21 rfl) rfl rfl ?_
        refine vg_iconst (pc := 131) (dK D_Mo_load_1 22 rfl) ?_
        refine vg_iconst (pc := 132) (dK D_Mo_load_1 23 rfl) ?_
        refine bnE h (fun p28 e_p28 h => ?_)
        refine vg_cV (pc := 133) (As := [V 1, V 0]) (rest := []) (mc' := 0) (ms' := 0) (dK D_Mo_load_1 24 rfl) K_Mo_59 (fitK rfl) (ltK rfl) hc0 rfl (leK rfl) (leK rfl) (leK rfl) (tf_Mo_copyBlock hc0 (inRk rfl) (inRk rfl) e_p28) (kcU ?_)
        refine g_aloadn (pc := 136) (i0 := 0) (j := 0) (dK D_Mo_load_1 25 rfl) rfl rfl ?_
        refine g_iloadn (pc := 137) (i0 := 1) (j := 1) (dK D_Mo_load_1 26 rfl) rfl rfl ?_
        refine nmE h (fun S29 e_S29 h => ?_)
        refine vg_putI (pc := 138) (ci := 11) (f := 1) (z := (g S1 c0 1)) (dK D_Mo_load_1 27 rfl) q_1443 hc0 (ltK rfl) (ltK rfl) rfl rfl e_S29 ?_
        refine g_aloadn (pc := 141) (i0 := 0) (j := 0) (dK D_Mo_load_1 28 rfl) rfl rfl ?_
        refine g_iloadn (pc := 142) (i0 := 2) (j := 2) (dK D_Mo_load_1 29 rfl) rfl rfl ?_
        refine nmE h (fun S30 e_S30 h => ?_)
        refine vg_putI (pc := 143) (ci := 11) (f := 2) (z := (g S1 c0 2)) (dK D_Mo_load_1 30 rfl) q_1444 hc0 (ltK rfl) (ltK rfl) rfl rfl e_S30 ?_
        refine vg_bipush (pc := 146) (dK D_Mo_load_1 31 rfl) rfl ?_
        exact vg_iretI (pc := 148) (r := (-3)) (dK D_Mo_load_1 32 rfl) rfl (leK rfl) (leK rfl) (fun _ => rfl) (by obtain rfl := Option.some.inj h; exact ⟨rfl, (inRk rfl), rfl⟩)
      · replace h := ifN h hc32
        refine g_aloadn (pc := 122) (i0 := 0) (j := 0) (dK D_Mo_load_1 16 rfl) rfl rfl ?_
        refine vg_iconst (pc := 123) (dK D_Mo_load_1 17 rfl) ?_
        refine nmE h (fun S31 e_S31 h => ?_)
        refine vg_putI (pc := 124) (ci := 11) (f := 3) (z := 0) (dK D_Mo_load_1 18 rfl) q_1445 hc0 (ltK rfl) (ltK rfl) rfl rfl e_S31 ?_
        refine g_iload (pc := 127) (j := 4) (dK D_Mo_load_1 19 rfl) rfl ?_
        exact vg_iretI (pc := 129) (r := p26.2.1) (dK D_Mo_load_1 20 rfl) rfl (leK rfl) (leK rfl) (fun _ => rfl) (by obtain rfl := Option.some.inj h; exact ⟨rfl, hx4_p26, rfl⟩)
  · replace h := ifN h hc12
    refine vg_iconst (pc := 82) (dK D_Mo_load_0 45 rfl) ?_
    refine g_goto (pc := 83) (tgt := 87) (dK D_Mo_load_0 46 rfl) rfl ?_
    refine g_istoren (pc := 87) (i0 := 3) (ls2 := [(3, V 1), (2, V (g S1 c0 2)), (1, V (g S1 c0 1)), (0, .ref c0)]) (dK D_Mo_load_0 48 rfl) rfl (ltK rfl) rfl ?_
    refine vg_iconst (pc := 88) (dK D_Mo_load_0 49 rfl) ?_
    refine g_istore (pc := 89) (ls2 := [(4, V 0), (3, V 1), (2, V (g S1 c0 2)), (1, V (g S1 c0 1)), (0, .ref c0)]) (dK D_Mo_load_1 0 rfl) (ltK rfl) rfl ?_
    refine bnE h (fun p17 e_p17 h => ?_)
    refine gL_weak (ls' := [(0, .ref c0), (1, V (g S1 c0 1)), (2, V (g S1 c0 2)), (3, V 1), (4, V 0)]) (sbc 4 rfl (sbc 3 rfl (sbc 2 rfl (sbc 1 rfl (sbc 0 rfl sbn))))) ?_
    refine tl_Mo_load_91 hc0 (g_in _ _ _) (g_in _ _ _) (fun hx3_p17 hx4_p17 => ?_) FU (1, 0, p9) e_p17 (inRk rfl) (inRk rfl)
    refine g_aloadn (pc := 113) (i0 := 0) (j := 0) (dK D_Mo_load_1 11 rfl) rfl rfl ?_
    refine vg_iconst (pc := 114) (dK D_Mo_load_1 12 rfl) ?_
    refine nmE h (fun S18 e_S18 h => ?_)
    refine vg_putI (pc := 115) (ci := 11) (f := 14) (z := 0) (dK D_Mo_load_1 13 rfl) q_1456 hc0 (ltK rfl) (ltK rfl) rfl rfl e_S18 ?_
    refine g_iloadn (pc := 118) (i0 := 3) (j := 3) (dK D_Mo_load_1 14 rfl) rfl rfl ?_
    refine vg_if_eq (pc := 119) (t := 130) (dK D_Mo_load_1 15 rfl) rfl hx3_p17 (fun hc23 => ?_) (fun hc23 => ?_)
    · replace h := ifP h hc23
      refine g_aloadn (pc := 130) (i0 := 0) (j := 0) (dK D_Mo_load_1 21 rfl) rfl rfl ?_
      refine vg_iconst (pc := 131) (dK D_Mo_load_1 22 rfl) ?_
      refine vg_iconst (pc := 132) (dK D_Mo_load_1 23 rfl) ?_
      refine bnE h (fun p19 e_p19 h => ?_)
      refine vg_cV (pc := 133) (As := [V 1, V 0]) (rest := []) (mc' := 0) (ms' := 0) (dK D_Mo_load_1 24 rfl) K_Mo_59 (fitK rfl) (ltK rfl) hc0 rfl (leK rfl) (leK rfl) (leK rfl) (tf_Mo_copyBlock hc0 (inRk rfl) (inRk rfl) e_p19) (kcU ?_)
      refine g_aloadn (pc := 136) (i0 := 0) (j := 0) (dK D_Mo_load_1 25 rfl) rfl rfl ?_
      refine g_iloadn (pc := 137) (i0 := 1) (j := 1) (dK D_Mo_load_1 26 rfl) rfl rfl ?_
      refine nmE h (fun S20 e_S20 h => ?_)
      refine vg_putI (pc := 138) (ci := 11) (f := 1) (z := (g S1 c0 1)) (dK D_Mo_load_1 27 rfl) q_1443 hc0 (ltK rfl) (ltK rfl) rfl rfl e_S20 ?_
      refine g_aloadn (pc := 141) (i0 := 0) (j := 0) (dK D_Mo_load_1 28 rfl) rfl rfl ?_
      refine g_iloadn (pc := 142) (i0 := 2) (j := 2) (dK D_Mo_load_1 29 rfl) rfl rfl ?_
      refine nmE h (fun S21 e_S21 h => ?_)
      refine vg_putI (pc := 143) (ci := 11) (f := 2) (z := (g S1 c0 2)) (dK D_Mo_load_1 30 rfl) q_1444 hc0 (ltK rfl) (ltK rfl) rfl rfl e_S21 ?_
      refine vg_bipush (pc := 146) (dK D_Mo_load_1 31 rfl) rfl ?_
      exact vg_iretI (pc := 148) (r := (-3)) (dK D_Mo_load_1 32 rfl) rfl (leK rfl) (leK rfl) (fun _ => rfl) (by obtain rfl := Option.some.inj h; exact ⟨rfl, (inRk rfl), rfl⟩)
    · replace h := ifN h hc23
      refine g_aloadn (pc := 122) (i0 := 0) (j := 0) (dK D_Mo_load_1 16 rfl) rfl rfl ?_
      refine vg_iconst (pc := 123) (dK D_Mo_load_1 17 rfl) ?_
      refine nmE h (fun S22 e_S22 h => ?_)
      refine vg_putI (pc := 124) (ci := 11) (f := 3) (z := 0) (dK D_Mo_load_1 18 rfl) q_1445 hc0 (ltK rfl) (ltK rfl) rfl rfl e_S22 ?_
      refine g_iload (pc := 127) (j := 4) (dK D_Mo_load_1 19 rfl) rfl ?_
      exact vg_iretI (pc := 129) (r := p17.2.1) (dK D_Mo_load_1 20 rfl) rfl (leK rfl) (leK rfl) (fun _ => rfl) (by obtain rfl := Option.some.inj h; exact ⟨rfl, hx4_p17, rfl⟩)
