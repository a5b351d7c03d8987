def fn_FP_ad (c0 : Nat) (a1 : Int) (a2 : Int) (S : St) : Option (Nat × Int) := bnO (fn_FP_needAd c0 a1 S) fun p1 => if p1 = 0 then (if a2 = 0 then (if 0 ≤ a1 ∧ a1 < 40 then (some (0, (g S (tgt (tgt (tgt (tgt c0 3) 0) 0) 0) a1.toNat))) else none) else if a2 = 1 then (if 0 ≤ a1 ∧ a1 < 40 then (some (0, (g S (tgt (tgt (tgt (tgt c0 3) 0) 0) 1) a1.toNat))) else none) else if a2 = 2 then (if 0 ≤ a1 ∧ a1 < 40 then (some (0, (g S (tgt (tgt (tgt (tgt c0 3) 0) 0) 2) a1.toNat))) else none) else if a2 = 3 then (if 0 ≤ a1 ∧ a1 < 40 then (some (0, (g S (tgt (tgt (tgt (tgt c0 3) 0) 0) 3) a1.toNat))) else none) else if a2 = 4 then (if 0 ≤ a1 ∧ a1 < 40 then (some (0, (g S (tgt (tgt (tgt (tgt c0 3) 0) 0) 4) a1.toNat))) else none) else if a2 = 5 then (if 0 ≤ a1 ∧ a1 < 40 then (some (0, (g S (tgt (tgt (tgt (tgt c0 3) 0) 0) 5) a1.toNat))) else none) else if a2 = 6 then (if 0 ≤ a1 ∧ a1 < 40 then (bnO (fn_FP_orNone (g S (tgt (tgt (tgt (tgt c0 3) 0) 0) 6) a1.toNat) S) fun p16 => some (0, p16)) else none) else if a2 = 7 then (if 0 ≤ a1 ∧ a1 < 40 then (bnO (fn_Plan_isLate (tgt c0 3) (g S (tgt (tgt (tgt (tgt c0 3) 0) 0) 5) a1.toNat) S) fun p19 => if p19 = true then (some (0, 1)) else (some (0, 0))) else none) else (some (0, (-1)))) else (some (p1, 0))
theorem tf_FP_ad {E : EV} {X : XT} (hfl : X.2.2.2 = false) {c0 : Nat} (hc0 : HC X 10 c0) {a1 : Int} (ha1 : inR a1) {a2 : Int} (ha2 : inR a2) {S : St} {q : Nat × Int} (h : fn_FP_ad c0 a1 a2 S = some q) : Ev E M_FP_ad [.ref c0, V a1, V a2] (WX X S) 1 6 (KT X q.1 S (KI X q.2 S)) := by
  refine Ev.of pn_FP rfl (leK rfl) ?_
  show Go E M_FP_ad 1 6 0 [(0, .ref c0), (1, V a1), (2, V a2)] [] (WX X S) 0 0 (KT X q.1 S (KI X q.2 S))
  unfold fn_FP_ad at h
  refine g_aloadn (pc := 0) (i0 := 0) (j := 0) (dK D_FP_ad_0 0 rfl) rfl rfl ?_
  refine g_iloadn (pc := 1) (i0 := 1) (j := 1) (dK D_FP_ad_0 1 rfl) rfl rfl ?_
  refine bnE h (fun p1 e_p1 h => ?_)
  refine vg_cV (pc := 2) (As := [V a1]) (rest := []) (mc' := 1) (ms' := 6) (dK D_FP_ad_0 2 rfl) K_FP_162 (fitK rfl) (ltK rfl) hc0 rfl (leK rfl) (leK rfl) (leK rfl) (tf_FP_needAd hfl hc0 ha1 e_p1) (kcT hfl (fun he21 => kcU ?_) (fun he21 => ⟨rfl, ?_⟩))
  · replace h := ifP h he21
    refine g_aloadn (pc := 5) (i0 := 0) (j := 0) (dK D_FP_ad_0 3 rfl) rfl rfl ?_
    refine vg_getO (pc := 6) (ci := 10) (f := 3) (dK D_FP_ad_0 4 rfl) q_425 hc0 (ltK rfl) (ltK rfl) rfl ?_
    refine vg_getO (pc := 9) (ci := 4) (f := 0) (dK D_FP_ad_0 5 rfl) q_292 (hw_10_3 hc0) (ltK rfl) (ltK rfl) rfl ?_
    refine vg_getO (pc := 12) (ci := 8) (f := 0) (dK D_FP_ad_0 6 rfl) q_224 (hw_4_0 (hw_10_3 hc0)) (ltK rfl) (ltK rfl) rfl ?_
    refine g_astoren (pc := 15) (i0 := 3) (ls2 := [(3, .ref (tgt (tgt (tgt c0 3) 0) 0)), (0, .ref c0), (1, V a1), (2, V a2)]) (dK D_FP_ad_0 7 rfl) rfl (ltK rfl) rfl ?_
    refine g_iloadn (pc := 16) (i0 := 2) (j := 3) (dK D_FP_ad_0 8 rfl) rfl rfl ?_
    by_cases hk2 : a2 = 0
    · have h := ifP h hk2
      refine vg_tabK (pc := 17) (kk := 0) (t := 64) (dK D_FP_ad_0 9 rfl) hk2 rfl rfl rfl rfl ?_
      refine g_aloadn (pc := 64) (i0 := 3) (j := 0) (dK D_FP_ad_0 10 rfl) rfl rfl ?_
      refine vg_getA (pc := 65) (ci := 0) (f := 0) (dK D_FP_ad_0 11 rfl) q_79 (hw_8_0 (hw_4_0 (hw_10_3 hc0))) (ltK rfl) (ltK rfl) rfl ?_
      refine g_iloadn (pc := 68) (i0 := 1) (j := 2) (dK D_FP_ad_0 12 rfl) rfl rfl ?_
      refine gdE h (fun hi3 h => ?_)
      refine vg_iaload (pc := 69) (j := a1.toNat) (dK D_FP_ad_0 13 rfl) (hw_0_0 (hw_8_0 (hw_4_0 (hw_10_3 hc0)))) rfl hi3 rfl ?_
      exact vg_iretI (pc := 70) (r := (g S (tgt (tgt (tgt (tgt c0 3) 0) 0) 0) a1.toNat)) (dK D_FP_ad_0 14 rfl) rfl (leK rfl) (leK rfl) (xf hfl) (by obtain rfl := Option.some.inj h; exact KT_ok ⟨rfl, (g_in _ _ _), rfl⟩)
    replace h := ifN h hk2
    by_cases hk4 : a2 = 1
    · have h := ifP h hk4
      refine vg_tabK (pc := 17) (kk := 1) (t := 71) (dK D_FP_ad_0 9 rfl) hk4 rfl rfl rfl rfl ?_
      refine g_aloadn (pc := 71) (i0 := 3) (j := 0) (dK D_FP_ad_0 15 rfl) rfl rfl ?_
      refine vg_getA (pc := 72) (ci := 0) (f := 1) (dK D_FP_ad_0 16 rfl) q_82 (hw_8_0 (hw_4_0 (hw_10_3 hc0))) (ltK rfl) (ltK rfl) rfl ?_
      refine g_iloadn (pc := 75) (i0 := 1) (j := 2) (dK D_FP_ad_0 17 rfl) rfl rfl ?_
      refine gdE h (fun hi5 h => ?_)
      refine vg_iaload (pc := 76) (j := a1.toNat) (dK D_FP_ad_0 18 rfl) (hw_0_1 (hw_8_0 (hw_4_0 (hw_10_3 hc0)))) rfl hi5 rfl ?_
      exact vg_iretI (pc := 77) (r := (g S (tgt (tgt (tgt (tgt c0 3) 0) 0) 1) a1.toNat)) (dK D_FP_ad_0 19 rfl) rfl (leK rfl) (leK rfl) (xf hfl) (by obtain rfl := Option.some.inj h; exact KT_ok ⟨rfl, (g_in _ _ _), rfl⟩)
    replace h := ifN h hk4
    by_cases hk6 : a2 = 2
    · have h := ifP h hk6
      refine vg_tabK (pc := 17) (kk := 2) (t := 78) (dK D_FP_ad_0 9 rfl) hk6 rfl rfl rfl rfl ?_
      refine g_aloadn (pc := 78) (i0 := 3) (j := 0) (dK D_FP_ad_0 20 rfl) rfl rfl ?_
      refine vg_getA (pc := 79) (ci := 0) (f := 2) (dK D_FP_ad_0 21 rfl) q_85 (hw_8_0 (hw_4_0 (hw_10_3 hc0))) (ltK rfl) (ltK rfl) rfl ?_
      refine g_iloadn (pc := 82) (i0 := 1) (j := 2) (dK D_FP_ad_0 22 rfl) rfl rfl ?_
      refine gdE h (fun hi7 h => ?_)
      refine vg_iaload (pc := 83) (j := a1.toNat) (dK D_FP_ad_0 23 rfl) (hw_0_2 (hw_8_0 (hw_4_0 (hw_10_3 hc0)))) rfl hi7 rfl ?_
      exact vg_iretI (pc := 84) (r := (g S (tgt (tgt (tgt (tgt c0 3) 0) 0) 2) a1.toNat)) (dK D_FP_ad_0 24 rfl) rfl (leK rfl) (leK rfl) (xf hfl) (by obtain rfl := Option.some.inj h; exact KT_ok ⟨rfl, (g_in _ _ _), rfl⟩)
    replace h := ifN h hk6
    by_cases hk8 : a2 = 3
    · have h := ifP h hk8
      refine vg_tabK (pc := 17) (kk := 3) (t := 85) (dK D_FP_ad_0 9 rfl) hk8 rfl rfl rfl rfl ?_
      refine g_aloadn (pc := 85) (i0 := 3) (j := 0) (dK D_FP_ad_0 25 rfl) rfl rfl ?_
      refine vg_getA (pc := 86) (ci := 0) (f := 3) (dK D_FP_ad_0 26 rfl) q_90 (hw_8_0 (hw_4_0 (hw_10_3 hc0))) (ltK rfl) (ltK rfl) rfl ?_
      refine g_iloadn (pc := 89) (i0 := 1) (j := 2) (dK D_FP_ad_0 27 rfl) rfl rfl ?_
      refine gdE h (fun hi9 h => ?_)
      refine vg_iaload (pc := 90) (j := a1.toNat) (dK D_FP_ad_0 28 rfl) (hw_0_3 (hw_8_0 (hw_4_0 (hw_10_3 hc0)))) rfl hi9 rfl ?_
      exact vg_iretI (pc := 91) (r := (g S (tgt (tgt (tgt (tgt c0 3) 0) 0) 3) a1.toNat)) (dK D_FP_ad_0 29 rfl) rfl (leK rfl) (leK rfl) (xf hfl) (by obtain rfl := Option.some.inj h; exact KT_ok ⟨rfl, (g_in _ _ _), rfl⟩)
    replace h := ifN h hk8
    by_cases hk10 : a2 = 4
    · have h := ifP h hk10
      refine vg_tabK (pc := 17) (kk := 4) (t := 92) (dK D_FP_ad_0 9 rfl) hk10 rfl rfl rfl rfl ?_
      refine g_aloadn (pc := 92) (i0 := 3) (j := 0) (dK D_FP_ad_0 30 rfl) rfl rfl ?_
      refine vg_getA (pc := 93) (ci := 0) (f := 4) (dK D_FP_ad_0 31 rfl) q_94 (hw_8_0 (hw_4_0 (hw_10_3 hc0))) (ltK rfl) (ltK rfl) rfl ?_
      refine g_iloadn (pc := 96) (i0 := 1) (j := 2) (dK D_FP_ad_0 32 rfl) rfl rfl ?_
      refine gdE h (fun hi11 h => ?_)
      refine vg_iaload (pc := 97) (j := a1.toNat) (dK D_FP_ad_0 33 rfl) (hw_0_4 (hw_8_0 (hw_4_0 (hw_10_3 hc0)))) rfl hi11 rfl ?_
      exact vg_iretI (pc := 98) (r := (g S (tgt (tgt (tgt (tgt c0 3) 0) 0) 4) a1.toNat)) (dK D_FP_ad_0 34 rfl) rfl (leK rfl) (leK rfl) (xf hfl) (by obtain rfl := Option.some.inj h; exact KT_ok ⟨rfl, (g_in _ _ _), rfl⟩)
    replace h := ifN h hk10
    by_cases hk12 : a2 = 5
    · have h := ifP h hk12
      refine vg_tabK (pc := 17) (kk := 5) (t := 99) (dK D_FP_ad_0 9 rfl) hk12 rfl rfl rfl rfl ?_
      refine g_aloadn (pc := 99) (i0 := 3) (j := 0) (dK D_FP_ad_0 35 rfl) rfl rfl ?_
      refine vg_getA (pc := 100) (ci := 0) (f := 5) (dK D_FP_ad_0 36 rfl) q_97 (hw_8_0 (hw_4_0 (hw_10_3 hc0))) (ltK rfl) (ltK rfl) rfl ?_
      refine g_iloadn (pc := 103) (i0 := 1) (j := 2) (dK D_FP_ad_0 37 rfl) rfl rfl ?_
      refine gdE h (fun hi13 h => ?_)
      refine vg_iaload (pc := 104) (j := a1.toNat) (dK D_FP_ad_0 38 rfl) (hw_0_5 (hw_8_0 (hw_4_0 (hw_10_3 hc0)))) rfl hi13 rfl ?_
      exact vg_iretI (pc := 105) (r := (g S (tgt (tgt (tgt (tgt c0 3) 0) 0) 5) a1.toNat)) (dK D_FP_ad_0 39 rfl) rfl (leK rfl) (leK rfl) (xf hfl) (by obtain rfl := Option.some.inj h; exact KT_ok ⟨rfl, (g_in _ _ _), rfl⟩)
    replace h := ifN h hk12
    by_cases hk14 : a2 = 6
    · have h := ifP h hk14
      refine vg_tabK (pc := 17) (kk := 6) (t := 106) (dK D_FP_ad_0 9 rfl) hk14 rfl rfl rfl rfl ?_
      refine g_aloadn (pc := 106) (i0 := 3) (j := 0) (dK D_FP_ad_0 40 rfl) rfl rfl ?_
      refine vg_getA (pc := 107) (ci := 0) (f := 6) (dK D_FP_ad_0 41 rfl) q_103 (hw_8_0 (hw_4_0 (hw_10_3 hc0))) (ltK rfl) (ltK rfl) rfl ?_
      refine g_iloadn (pc := 110) (i0 := 1) (j := 2) (dK D_FP_ad_0 42 rfl) rfl rfl ?_
      refine gdE h (fun hi15 h => ?_)
      refine vg_iaload (pc := 111) (j := a1.toNat) (dK D_FP_ad_0 43 rfl) (hw_0_6 (hw_8_0 (hw_4_0 (hw_10_3 hc0)))) rfl hi15 rfl ?_
      refine bnE h (fun p16 e_p16 h => ?_)
      refine vg_cS (pc := 112) (As := [V (g S (tgt (tgt (tgt (tgt c0 3) 0) 0) 6) a1.toNat)]) (rest := []) (mc' := 0) (ms' := 0) (dK D_FP_ad_0 44 rfl) K_FP_185 (fitK rfl) rfl (leK rfl) (leK rfl) (leK rfl) (tf_FP_orNone (g_in _ _ _) e_p16) (kcI (fun h_p16 => ?_))
      exact vg_iretI (pc := 115) (r := p16) (dK D_FP_ad_0 45 rfl) rfl (leK rfl) (leK rfl) (xf hfl) (by obtain rfl := Option.some.inj h; exact KT_ok ⟨rfl, h_p16, rfl⟩)
    replace h := ifN h hk14
    by_cases hk17 : a2 = 7
    · have h := ifP h hk17
      refine vg_tabK (pc := 17) (kk := 7) (t := 116) (dK D_FP_ad_0 9 rfl) hk17 rfl rfl rfl rfl ?_
      refine g_aloadn (pc := 116) (i0 := 0) (j := 1) (dK D_FP_ad_0 46 rfl) rfl rfl ?_
      refine vg_getO (pc := 117) (ci := 10) (f := 3) (dK D_FP_ad_0 47 rfl) q_425 hc0 (ltK rfl) (ltK rfl) rfl ?_
      refine g_aloadn (pc := 120) (i0 := 3) (j := 0) (dK D_FP_ad_0 48 rfl) rfl rfl ?_
      refine vg_getA (pc := 121) (ci := 0) (f := 5) (dK D_FP_ad_0 49 rfl) q_97 (hw_8_0 (hw_4_0 (hw_10_3 hc0))) (ltK rfl) (ltK rfl) rfl ?_
      refine g_iloadn (pc := 124) (i0 := 1) (j := 2) (dK D_FP_ad_1 0 rfl) rfl rfl ?_
      refine gdE h (fun hi18 h => ?_)
      refine vg_iaload (pc := 125) (j := a1.toNat) (dK D_FP_ad_1 1 rfl) (hw_0_5 (hw_8_0 (hw_4_0 (hw_10_3 hc0)))) rfl hi18 rfl ?_
      refine bnE h (fun p19 e_p19 h => ?_)
      refine vg_cV (pc := 126) (As := [V (g S (tgt (tgt (tgt (tgt c0 3) 0) 0) 5) a1.toNat)]) (rest := []) (mc' := 0) (ms' := 0) (dK D_FP_ad_1 2 rfl) K_FP_189 (fitK rfl) (ltK rfl) (hw_10_3 hc0) rfl (leK rfl) (leK rfl) (leK rfl) (tf_Plan_isLate (hw_10_3 hc0) (g_in _ _ _) e_p19) (kcB ?_)
      refine vg_ifB_eq (pc := 129) (b := p19) (t := 136) (dK D_FP_ad_1 3 rfl) rfl (fun hc20 => ?_) (fun hc20 => ?_)
      · replace h := ifP h hc20
        refine vg_iconst (pc := 132) (dK D_FP_ad_1 4 rfl) ?_
        refine g_goto (pc := 133) (tgt := 137) (dK D_FP_ad_1 5 rfl) rfl ?_
        exact vg_iretI (pc := 137) (r := 1) (dK D_FP_ad_1 7 rfl) rfl (leK rfl) (leK rfl) (xf hfl) (by obtain rfl := Option.some.inj h; exact KT_ok ⟨rfl, (inRk rfl), rfl⟩)
      · replace h := ifN h hc20
        refine vg_iconst (pc := 136) (dK D_FP_ad_1 6 rfl) ?_
        exact vg_iretI (pc := 137) (r := 0) (dK D_FP_ad_1 7 rfl) rfl (leK rfl) (leK rfl) (xf hfl) (by obtain rfl := Option.some.inj h; exact KT_ok ⟨rfl, (inRk rfl), rfl⟩)
    replace h := ifN h hk17
    refine vg_tabD (pc := 17) (t := 138) (lo := 0) (hi := 7) (dK D_FP_ad_0 9 rfl) ha2 (by omega) rfl ?_
    refine vg_iconst (pc := 138) (dK D_FP_ad_1 8 rfl) ?_
    exact vg_iretI (pc := 139) (r := (-1)) (dK D_FP_ad_1 9 rfl) rfl (leK rfl) (leK rfl) (xf hfl) (by obtain rfl := Option.some.inj h; exact KT_ok ⟨rfl, (inRk rfl), rfl⟩)
  · replace h := ifN h he21
    obtain rfl := Option.some.inj h
    exact KT_thr he21
def fn_Law_ad (c0 : Nat) (a1 : Int) (a2 : Int) (c3 : Nat) (S : St) : Option (Int × St) := bnO (fn_FP_ad c0 a1 a2 S) fun p1 => if p1.1 = 0 then (nm (ul S c3 0 p1.2) fun S2 => some (0, S2)) else (if p1.1 = 1 then (some (1, S)) else none)
theorem tf_Law_ad {E : EV} {X : XT} (hfl : X.2.2.2 = false) {c0 : Nat} (hc0 : HC X 10 c0) {a1 : Int} (ha1 : inR a1) {a2 : Int} (ha2 : inR a2) {c3 : Nat} (hc3 : HA X 3 1 c3) {S : St} {q : Int × St} (h : fn_Law_ad c0 a1 a2 c3 S = some q) : EvH E M_Law_ad [.ref c0, V a1, V a2, .ref c3] (WX X S) 1 6 (KI X q.1 q.2) := by
  refine EvH.of pn_Law (leK rfl) ?_
  show Go E M_Law_ad 1 6 0 [(0, .ref c0), (1, V a1), (2, V a2), (3, .ref c3)] [] (WX X S) 0 0 (KI X q.1 q.2)
  unfold fn_Law_ad at h
  refine g_aloadn (pc := 0) (i0 := 3) (j := 3) (dK D_Law_ad 0 rfl) rfl rfl ?_
  refine vg_iconst (pc := 1) (dK D_Law_ad 1 rfl) ?_
  refine g_aloadn (pc := 2) (i0 := 0) (j := 0) (dK D_Law_ad 2 rfl) rfl rfl ?_
  refine g_iloadn (pc := 3) (i0 := 1) (j := 1) (dK D_Law_ad 3 rfl) rfl rfl ?_
  refine g_iloadn (pc := 4) (i0 := 2) (j := 2) (dK D_Law_ad 4 rfl) rfl rfl ?_
  refine bnE h (fun p1 e_p1 h => ?_)
  refine vg_cVX hfl (pc := 5) (As := [V a1, V a2]) (rest := [V 0, .ref c3]) (mc' := 1) (ms' := 6) (dK D_Law_ad 5 rfl) K_Law_25 (fitK rfl) (ltK rfl) hc0 rfl (leK rfl) (leK rfl) (leK rfl) (tf_FP_ad hfl hc0 ha1 ha2 e_p1) (kxT hfl (fun he3 => kxI hfl (fun h_p1 => ?_)) (fun he3 => ?_))
  · replace h := ifP h he3
    refine vg_i2l (pc := 8) (dK D_Law_ad 6 rfl) h_p1 ?_
    refine nmE h (fun S2 e_S2 h => ?_)
    refine vg_lastore (pc := 9) (z := p1.2) (dK D_Law_ad 7 rfl) hc3 rfl ⟨by decide, by decide⟩ rfl e_S2 ?_
    refine g_goto (pc := 10) (tgt := 17) (dK D_Law_ad 8 rfl) rfl ?_
    refine vg_iconst (pc := 17) (dK D_Law_ad 12 rfl) ?_
    exact vg_iretI (pc := 18) (r := 0) (dK D_Law_ad 13 rfl) rfl (leK rfl) (leK rfl) (xf hfl) (by obtain rfl := Option.some.inj h; exact ⟨rfl, (inRk rfl), rfl⟩)
  · replace h := ifN h he3
    by_cases hq4 : p1.1 = 1
    · have h := ifP h hq4
      rw [hq4]
      exact ⟨_, CT_Law_ad_5_1, (by obtain rfl := Option.some.inj h; exact ⟨rfl, (inRk rfl), rfl⟩)⟩
    · replace h := ifN h hq4
      exact nomatch h
def fn_FP_needStory (c0 : Nat) (a1 : Int) (S : St) : Option (Nat) := if a1 < 0 then (some 1) else (if a1 < (g S (tgt (tgt (tgt c0 3) 0) 1) 5) then (some 0) else (some 1))
theorem tf_FP_needStory {E : EV} {X : XT} (hfl : X.2.2.2 = false) {c0 : Nat} (hc0 : HC X 10 c0) {a1 : Int} (ha1 : inR a1) {S : St} {q : Nat} (h : fn_FP_needStory c0 a1 S = some q) : Ev E M_FP_needStory [.ref c0, V a1] (WX X S) 1 6 (KT X q S (KU X S)) := by
  refine Ev.of pn_FP rfl (leK rfl) ?_
  show Go E M_FP_needStory 1 6 0 [(0, .ref c0), (1, V a1)] [] (WX X S) 0 0 (KT X q S (KU X S))
  unfold fn_FP_needStory at h
  refine g_iloadn (pc := 0) (i0 := 1) (j := 1) (dK D_FP_needStory 0 rfl) rfl rfl ?_
  refine vg_if_lt (pc := 1) (t := 21) (dK D_FP_needStory 1 rfl) rfl ha1 (fun hc2 => ?_) (fun hc2 => ?_)
  · replace h := ifP h hc2
    exact vg_throwW hfl (pc := 21) TH_FP_363_368 (dK D_FP_needStory 9 rfl) (dK D_FP_needStory 10 rfl) (dK D_FP_needStory 11 rfl) (dK D_FP_needStory 12 rfl) (dK D_FP_needStory 13 rfl) rfl (leK rfl) (leK rfl) (leK rfl) (leK rfl) (leK rfl) (by obtain rfl := Option.some.inj h; exact KT_thr (e := 1) (by decide))
  · replace h := ifN h hc2
    refine g_iloadn (pc := 4) (i0 := 1) (j := 1) (dK D_FP_needStory 2 rfl) rfl rfl ?_
    refine g_aloadn (pc := 5) (i0 := 0) (j := 0) (dK D_FP_needStory 3 rfl) rfl rfl ?_
    refine vg_getO (pc := 6) (ci := 10) (f := 3) (dK D_FP_needStory 4 rfl) q_425 hc0 (ltK rfl) (ltK rfl) rfl ?_
    refine vg_getO (pc := 9) (ci := 4) (f := 0) (dK D_FP_needStory 5 rfl) q_292 (hw_10_3 hc0) (ltK rfl) (ltK rfl) rfl ?_
    refine vg_getO (pc := 12) (ci := 8) (f := 1) (dK D_FP_needStory 6 rfl) q_229 (hw_4_0 (hw_10_3 hc0)) (ltK rfl) (ltK rfl) rfl ?_
    refine vg_getI (pc := 15) (ci := 9) (f := 5) (dK D_FP_needStory 7 rfl) q_157 (hw_8_1 (hw_4_0 (hw_10_3 hc0))) (ltK rfl) (ltK rfl) rfl ?_
    refine vg_icmp_lt (pc := 18) (t := 32) (dK D_FP_needStory 8 rfl) rfl ha1 (g_in _ _ _) (fun hc1 => ?_) (fun hc1 => ?_)
    · replace h := ifP h hc1
      exact g_return (pc := 32) (dK D_FP_needStory 14 rfl) rfl (leK rfl) (leK rfl) (xf hfl) (by obtain rfl := Option.some.inj h; exact KT_ok ⟨rfl, rfl⟩)
    · replace h := ifN h hc1
      exact vg_throwW hfl (pc := 21) TH_FP_363_368 (dK D_FP_needStory 9 rfl) (dK D_FP_needStory 10 rfl) (dK D_FP_needStory 11 rfl) (dK D_FP_needStory 12 rfl) (dK D_FP_needStory 13 rfl) rfl (leK rfl) (leK rfl) (leK rfl) (leK rfl) (leK rfl) (by obtain rfl := Option.some.inj h; exact KT_thr (e := 1) (by decide))
def fn_FP_story (c0 : Nat) (a1 : Int) (a2 : Int) (S : St) : Option (Nat × Int) := bnO (fn_FP_needStory c0 a1 S) fun p1 => if p1 = 0 then (if a2 = 0 then (if 0 ≤ a1 ∧ a1 < 10 then (some (0, (g S (tgt (tgt (tgt (tgt c0 3) 0) 1) 0) a1.toNat))) else none) else if a2 = 1 then (if 0 ≤ a1 ∧ a1 < 10 then (some (0, (g S (tgt (tgt (tgt (tgt c0 3) 0) 1) 1) a1.toNat))) else none) else if a2 = 2 then (if 0 ≤ a1 ∧ a1 < 10 then (some (0, (g S (tgt (tgt (tgt (tgt c0 3) 0) 1) 2) a1.toNat))) else none) else if a2 = 3 then (if 0 ≤ a1 ∧ a1 < 10 then (some (0, (g S (tgt (tgt (tgt (tgt c0 3) 0) 1) 3) a1.toNat))) else none) else if a2 = 4 then (if 0 ≤ a1 ∧ a1 < 10 then (bnO (fn_FP_orNone (g S (tgt (tgt (tgt (tgt c0 3) 0) 1) 4) a1.toNat) S) fun p12 => some (0, p12)) else none) else if a2 = 5 then (if 0 ≤ a1 ∧ a1 < 10 then (bnO (fn_Plan_isLate (tgt c0 3) (g S (tgt (tgt (tgt (tgt c0 3) 0) 1) 3) a1.toNat) S) fun p15 => if p15 = true then (some (0, 1)) else (some (0, 0))) else none) else (some (0, (-1)))) else (some (p1, 0))
theorem tf_FP_story {E : EV} {X : XT} (hfl : X.2.2.2 = false) {c0 : Nat} (hc0 : HC X 10 c0) {a1 : Int} (ha1 : inR a1) {a2 : Int} (ha2 : inR a2) {S : St} {q : Nat × Int} (h : fn_FP_story c0 a1 a2 S = some q) : Ev E M_FP_story [.ref c0, V a1, V a2] (WX X S) 1 6 (KT X q.1 S (KI X q.2 S)) := by
  refine Ev.of pn_FP rfl (leK rfl) ?_
  show Go E M_FP_story 1 6 0 [(0, .ref c0), (1, V a1), (2, V a2)] [] (WX X S) 0 0 (KT X q.1 S (KI X q.2 S))
  unfold fn_FP_story at h
  refine g_aloadn (pc := 0) (i0 := 0) (j := 0) (dK D_FP_story 0 rfl) rfl rfl ?_
  refine g_iloadn (pc := 1) (i0 := 1) (j := 1) (dK D_FP_story 1 rfl) rfl rfl ?_
  refine bnE h (fun p1 e_p1 h => ?_)
  refine vg_cV (pc := 2) (As := [V a1]) (rest := []) (mc' := 1) (ms' := 6) (dK D_FP_story 2 rfl) K_FP_192 (fitK rfl) (ltK rfl) hc0 rfl (leK rfl) (leK rfl) (leK rfl) (tf_FP_needStory hfl hc0 ha1 e_p1) (kcT hfl (fun he17 => kcU ?_) (fun he17 => ⟨rfl, ?_⟩))
  · replace h := ifP h he17
    refine g_aloadn (pc := 5) (i0 := 0) (j := 0) (dK D_FP_story 3 rfl) rfl rfl ?_
    refine vg_getO (pc := 6) (ci := 10) (f := 3) (dK D_FP_story 4 rfl) q_425 hc0 (ltK rfl) (ltK rfl) rfl ?_
    refine vg_getO (pc := 9) (ci := 4) (f := 0) (dK D_FP_story 5 rfl) q_292 (hw_10_3 hc0) (ltK rfl) (ltK rfl) rfl ?_
    refine vg_getO (pc := 12) (ci := 8) (f := 1) (dK D_FP_story 6 rfl) q_229 (hw_4_0 (hw_10_3 hc0)) (ltK rfl) (ltK rfl) rfl ?_
    refine g_astoren (pc := 15) (i0 := 3) (ls2 := [(3, .ref (tgt (tgt (tgt c0 3) 0) 1)), (0, .ref c0), (1, V a1), (2, V a2)]) (dK D_FP_story 7 rfl) rfl (ltK rfl) rfl ?_
    refine g_iloadn (pc := 16) (i0 := 2) (j := 3) (dK D_FP_story 8 rfl) rfl rfl ?_
    by_cases hk2 : a2 = 0
    · have h := ifP h hk2
      refine vg_tabK (pc := 17) (kk := 0) (t := 56) (dK D_FP_story 9 rfl) hk2 rfl rfl rfl rfl ?_
      refine g_aloadn (pc := 56) (i0 := 3) (j := 0) (dK D_FP_story 10 rfl) rfl rfl ?_
      refine vg_getA (pc := 57) (ci := 9) (f := 0) (dK D_FP_story 11 rfl) q_136 (hw_8_1 (hw_4_0 (hw_10_3 hc0))) (ltK rfl) (ltK rfl) rfl ?_
      refine g_iloadn (pc := 60) (i0 := 1) (j := 2) (dK D_FP_story 12 rfl) rfl rfl ?_
      refine gdE h (fun hi3 h => ?_)
      refine vg_iaload (pc := 61) (j := a1.toNat) (dK D_FP_story 13 rfl) (hw_9_0 (hw_8_1 (hw_4_0 (hw_10_3 hc0)))) rfl hi3 rfl ?_
      exact vg_iretI (pc := 62) (r := (g S (tgt (tgt (tgt (tgt c0 3) 0) 1) 0) a1.toNat)) (dK D_FP_story 14 rfl) rfl (leK rfl) (leK rfl) (xf hfl) (by obtain rfl := Option.some.inj h; exact KT_ok ⟨rfl, (g_in _ _ _), rfl⟩)
    replace h := ifN h hk2
    by_cases hk4 : a2 = 1
    · have h := ifP h hk4
      refine vg_tabK (pc := 17) (kk := 1) (t := 63) (dK D_FP_story 9 rfl) hk4 rfl rfl rfl rfl ?_
      refine g_aloadn (pc := 63) (i0 := 3) (j := 0) (dK D_FP_story 15 rfl) rfl rfl ?_
      refine vg_getA (pc := 64) (ci := 9) (f := 1) (dK D_FP_story 16 rfl) q_138 (hw_8_1 (hw_4_0 (hw_10_3 hc0))) (ltK rfl) (ltK rfl) rfl ?_
      refine g_iloadn (pc := 67) (i0 := 1) (j := 2) (dK D_FP_story 17 rfl) rfl rfl ?_
      refine gdE h (fun hi5 h => ?_)
      refine vg_iaload (pc := 68) (j := a1.toNat) (dK D_FP_story 18 rfl) (hw_9_1 (hw_8_1 (hw_4_0 (hw_10_3 hc0)))) rfl hi5 rfl ?_
      exact vg_iretI (pc := 69) (r := (g S (tgt (tgt (tgt (tgt c0 3) 0) 1) 1) a1.toNat)) (dK D_FP_story 19 rfl) rfl (leK rfl) (leK rfl) (xf hfl) (by obtain rfl := Option.some.inj h; exact KT_ok ⟨rfl, (g_in _ _ _), rfl⟩)
    replace h := ifN h hk4
    by_cases hk6 : a2 = 2
    · have h := ifP h hk6
      refine vg_tabK (pc := 17) (kk := 2) (t := 70) (dK D_FP_story 9 rfl) hk6 rfl rfl rfl rfl ?_
      refine g_aloadn (pc := 70) (i0 := 3) (j := 0) (dK D_FP_story 20 rfl) rfl rfl ?_
      refine vg_getA (pc := 71) (ci := 9) (f := 2) (dK D_FP_story 21 rfl) q_142 (hw_8_1 (hw_4_0 (hw_10_3 hc0))) (ltK rfl) (ltK rfl) rfl ?_
      refine g_iloadn (pc := 74) (i0 := 1) (j := 2) (dK D_FP_story 22 rfl) rfl rfl ?_
      refine gdE h (fun hi7 h => ?_)
      refine vg_iaload (pc := 75) (j := a1.toNat) (dK D_FP_story 23 rfl) (hw_9_2 (hw_8_1 (hw_4_0 (hw_10_3 hc0)))) rfl hi7 rfl ?_
      exact vg_iretI (pc := 76) (r := (g S (tgt (tgt (tgt (tgt c0 3) 0) 1) 2) a1.toNat)) (dK D_FP_story 24 rfl) rfl (leK rfl) (leK rfl) (xf hfl) (by obtain rfl := Option.some.inj h; exact KT_ok ⟨rfl, (g_in _ _ _), rfl⟩)
    replace h := ifN h hk6
    by_cases hk8 : a2 = 3
    · have h := ifP h hk8
      refine vg_tabK (pc := 17) (kk := 3) (t := 77) (dK D_FP_story 9 rfl) hk8 rfl rfl rfl rfl ?_
      refine g_aloadn (pc := 77) (i0 := 3) (j := 0) (dK D_FP_story 25 rfl) rfl rfl ?_
      refine vg_getA (pc := 78) (ci := 9) (f := 3) (dK D_FP_story 26 rfl) q_145 (hw_8_1 (hw_4_0 (hw_10_3 hc0))) (ltK rfl) (ltK rfl) rfl ?_
      refine g_iloadn (pc := 81) (i0 := 1) (j := 2) (dK D_FP_story 27 rfl) rfl rfl ?_
      refine gdE h (fun hi9 h => ?_)
      refine vg_iaload (pc := 82) (j := a1.toNat) (dK D_FP_story 28 rfl) (hw_9_3 (hw_8_1 (hw_4_0 (hw_10_3 hc0)))) rfl hi9 rfl ?_
      exact vg_iretI (pc := 83) (r := (g S (tgt (tgt (tgt (tgt c0 3) 0) 1) 3) a1.toNat)) (dK D_FP_story 29 rfl) rfl (leK rfl) (leK rfl) (xf hfl) (by obtain rfl := Option.some.inj h; exact KT_ok ⟨rfl, (g_in _ _ _), rfl⟩)
    replace h := ifN h hk8
    by_cases hk10 : a2 = 4
    · have h := ifP h hk10
      refine vg_tabK (pc := 17) (kk := 4) (t := 84) (dK D_FP_story 9 rfl) hk10 rfl rfl rfl rfl ?_
      refine g_aloadn (pc := 84) (i0 := 3) (j := 0) (dK D_FP_story 30 rfl) rfl rfl ?_
      refine vg_getA (pc := 85) (ci := 9) (f := 4) (dK D_FP_story 31 rfl) q_151 (hw_8_1 (hw_4_0 (hw_10_3 hc0))) (ltK rfl) (ltK rfl) rfl ?_
      refine g_iloadn (pc := 88) (i0 := 1) (j := 2) (dK D_FP_story 32 rfl) rfl rfl ?_
      refine gdE h (fun hi11 h => ?_)
      refine vg_iaload (pc := 89) (j := a1.toNat) (dK D_FP_story 33 rfl) (hw_9_4 (hw_8_1 (hw_4_0 (hw_10_3 hc0)))) rfl hi11 rfl ?_
      refine bnE h (fun p12 e_p12 h => ?_)
      refine vg_cS (pc := 90) (As := [V (g S (tgt (tgt (tgt (tgt c0 3) 0) 1) 4) a1.toNat)]) (rest := []) (mc' := 0) (ms' := 0) (dK D_FP_story 34 rfl) K_FP_185 (fitK rfl) rfl (leK rfl) (leK rfl) (leK rfl) (tf_FP_orNone (g_in _ _ _) e_p12) (kcI (fun h_p12 => ?_))
      exact vg_iretI (pc := 93) (r := p12) (dK D_FP_story 35 rfl) rfl (leK rfl) (leK rfl) (xf hfl) (by obtain rfl := Option.some.inj h; exact KT_ok ⟨rfl, h_p12, rfl⟩)
    replace h := ifN h hk10
    by_cases hk13 : a2 = 5
    · have h := ifP h hk13
      refine vg_tabK (pc := 17) (kk := 5) (t := 94) (dK D_FP_story 9 rfl) hk13 rfl rfl rfl rfl ?_
      refine g_aloadn (pc := 94) (i0 := 0) (j := 1) (dK D_FP_story 36 rfl) rfl rfl ?_
      refine vg_getO (pc := 95) (ci := 10) (f := 3) (dK D_FP_story 37 rfl) q_425 hc0 (ltK rfl) (ltK rfl) rfl ?_
      refine g_aloadn (pc := 98) (i0 := 3) (j := 0) (dK D_FP_story 38 rfl) rfl rfl ?_
      refine vg_getA (pc := 99) (ci := 9) (f := 3) (dK D_FP_story 39 rfl) q_145 (hw_8_1 (hw_4_0 (hw_10_3 hc0))) (ltK rfl) (ltK rfl) rfl ?_
      refine g_iloadn (pc := 102) (i0 := 1) (j := 2) (dK D_FP_story 40 rfl) rfl rfl ?_
      refine gdE h (fun hi14 h => ?_)
      refine vg_iaload (pc := 103) (j := a1.toNat) (dK D_FP_story 41 rfl) (hw_9_3 (hw_8_1 (hw_4_0 (hw_10_3 hc0)))) rfl hi14 rfl ?_
      refine bnE h (fun p15 e_p15 h => ?_)
      refine vg_cV (pc := 104) (As := [V (g S (tgt (tgt (tgt (tgt c0 3) 0) 1) 3) a1.toNat)]) (rest := []) (mc' := 0) (ms' := 0) (dK D_FP_story 42 rfl) K_FP_189 (fitK rfl) (ltK rfl) (hw_10_3 hc0) rfl (leK rfl) (leK rfl) (leK rfl) (tf_Plan_isLate (hw_10_3 hc0) (g_in _ _ _) e_p15) (kcB ?_)
      refine vg_ifB_eq (pc := 107) (b := p15) (t := 114) (dK D_FP_story 43 rfl) rfl (fun hc16 => ?_) (fun hc16 => ?_)
      · replace h := ifP h hc16
        refine vg_iconst (pc := 110) (dK D_FP_story 44 rfl) ?_
        refine g_goto (pc := 111) (tgt := 115) (dK D_FP_story 45 rfl) rfl ?_
        exact vg_iretI (pc := 115) (r := 1) (dK D_FP_story 47 rfl) rfl (leK rfl) (leK rfl) (xf hfl) (by obtain rfl := Option.some.inj h; exact KT_ok ⟨rfl, (inRk rfl), rfl⟩)
      · replace h := ifN h hc16
        refine vg_iconst (pc := 114) (dK D_FP_story 46 rfl) ?_
        exact vg_iretI (pc := 115) (r := 0) (dK D_FP_story 47 rfl) rfl (leK rfl) (leK rfl) (xf hfl) (by obtain rfl := Option.some.inj h; exact KT_ok ⟨rfl, (inRk rfl), rfl⟩)
    replace h := ifN h hk13
    refine vg_tabD (pc := 17) (t := 116) (lo := 0) (hi := 5) (dK D_FP_story 9 rfl) ha2 (by omega) rfl ?_
    refine vg_iconst (pc := 116) (dK D_FP_story 48 rfl) ?_
    exact vg_iretI (pc := 117) (r := (-1)) (dK D_FP_story 49 rfl) rfl (leK rfl) (leK rfl) (xf hfl) (by obtain rfl := Option.some.inj h; exact KT_ok ⟨rfl, (inRk rfl), rfl⟩)
  · replace h := ifN h he17
    obtain rfl := Option.some.inj h
    exact KT_thr he17
def fn_Law_story (c0 : Nat) (a1 : Int) (a2 : Int) (c3 : Nat) (S : St) : Option (Int × St) := bnO (fn_FP_story c0 a1 a2 S) fun p1 => if p1.1 = 0 then (nm (ul S c3 0 p1.2) fun S2 => some (0, S2)) else (if p1.1 = 1 then (some (1, S)) else none)
theorem tf_Law_story {E : EV} {X : XT} (hfl : X.2.2.2 = false) {c0 : Nat} (hc0 : HC X 10 c0) {a1 : Int} (ha1 : inR a1) {a2 : Int} (ha2 : inR a2) {c3 : Nat} (hc3 : HA X 3 1 c3) {S : St} {q : Int × St} (h : fn_Law_story c0 a1 a2 c3 S = some q) : EvH E M_Law_story [.ref c0, V a1, V a2, .ref c3] (WX X S) 1 6 (KI X q.1 q.2) := by
  refine EvH.of pn_Law (leK rfl) ?_
  show Go E M_Law_story 1 6 0 [(0, .ref c0), (1, V a1), (2, V a2), (3, .ref c3)] [] (WX X S) 0 0 (KI X q.1 q.2)
  unfold fn_Law_story at h
  refine g_aloadn (pc := 0) (i0 := 3) (j := 3) (dK D_Law_story 0 rfl) rfl rfl ?_
  refine vg_iconst (pc := 1) (dK D_Law_story 1 rfl) ?_
  refine g_aloadn (pc := 2) (i0 := 0) (j := 0) (dK D_Law_story 2 rfl) rfl rfl ?_
  refine g_iloadn (pc := 3) (i0 := 1) (j := 1) (dK D_Law_story 3 rfl) rfl rfl ?_
  refine g_iloadn (pc := 4) (i0 := 2) (j := 2) (dK D_Law_story 4 rfl) rfl rfl ?_
  refine bnE h (fun p1 e_p1 h => ?_)
  refine vg_cVX hfl (pc := 5) (As := [V a1, V a2]) (rest := [V 0, .ref c3]) (mc' := 1) (ms' := 6) (dK D_Law_story 5 rfl) K_Law_28 (fitK rfl) (ltK rfl) hc0 rfl (leK rfl) (leK rfl) (leK rfl) (tf_FP_story hfl hc0 ha1 ha2 e_p1) (kxT hfl (fun he3 => kxI hfl (fun h_p1 => ?_)) (fun he3 => ?_))
  · replace h := ifP h he3
    refine vg_i2l (pc := 8) (dK D_Law_story 6 rfl) h_p1 ?_
    refine nmE h (fun S2 e_S2 h => ?_)
    refine vg_lastore (pc := 9) (z := p1.2) (dK D_Law_story 7 rfl) hc3 rfl ⟨by decide, by decide⟩ rfl e_S2 ?_
    refine g_goto (pc := 10) (tgt := 17) (dK D_Law_story 8 rfl) rfl ?_
    refine vg_iconst (pc := 17) (dK D_Law_story 12 rfl) ?_
    exact vg_iretI (pc := 18) (r := 0) (dK D_Law_story 13 rfl) rfl (leK rfl) (leK rfl) (xf hfl) (by obtain rfl := Option.some.inj h; exact ⟨rfl, (inRk rfl), rfl⟩)
  · replace h := ifN h he3
    by_cases hq4 : p1.1 = 1
    · have h := ifP h hq4
      rw [hq4]
      exact ⟨_, CT_Law_story_5_1, (by obtain rfl := Option.some.inj h; exact ⟨rfl, (inRk rfl), rfl⟩)⟩
    · replace h := ifN h hq4
      exact nomatch h
def fn_FP_needStandby (c0 : Nat) (a1 : Int) (S : St) : Option (Nat) := if a1 < 0 then (some 1) else (if a1 < (g S (tgt (tgt (tgt c0 3) 0) 2) 2) then (some 0) else (some 1))
theorem tf_FP_needStandby {E : EV} {X : XT} (hfl : X.2.2.2 = false) {c0 : Nat} (hc0 : HC X 10 c0) {a1 : Int} (ha1 : inR a1) {S : St} {q : Nat} (h : fn_FP_needStandby c0 a1 S = some q) : Ev E M_FP_needStandby [.ref c0, V a1] (WX X S) 1 6 (KT X q S (KU X S)) := by
  refine Ev.of pn_FP rfl (leK rfl) ?_
  show Go E M_FP_needStandby 1 6 0 [(0, .ref c0), (1, V a1)] [] (WX X S) 0 0 (KT X q S (KU X S))
  unfold fn_FP_needStandby at h
  refine g_iloadn (pc := 0) (i0 := 1) (j := 1) (dK D_FP_needStandby 0 rfl) rfl rfl ?_
  refine vg_if_lt (pc := 1) (t := 21) (dK D_FP_needStandby 1 rfl) rfl ha1 (fun hc2 => ?_) (fun hc2 => ?_)
  · replace h := ifP h hc2
    exact vg_throwW hfl (pc := 21) TH_FP_363_370 (dK D_FP_needStandby 9 rfl) (dK D_FP_needStandby 10 rfl) (dK D_FP_needStandby 11 rfl) (dK D_FP_needStandby 12 rfl) (dK D_FP_needStandby 13 rfl) rfl (leK rfl) (leK rfl) (leK rfl) (leK rfl) (leK rfl) (by obtain rfl := Option.some.inj h; exact KT_thr (e := 1) (by decide))
  · replace h := ifN h hc2
    refine g_iloadn (pc := 4) (i0 := 1) (j := 1) (dK D_FP_needStandby 2 rfl) rfl rfl ?_
    refine g_aloadn (pc := 5) (i0 := 0) (j := 0) (dK D_FP_needStandby 3 rfl) rfl rfl ?_
    refine vg_getO (pc := 6) (ci := 10) (f := 3) (dK D_FP_needStandby 4 rfl) q_425 hc0 (ltK rfl) (ltK rfl) rfl ?_
    refine vg_getO (pc := 9) (ci := 4) (f := 0) (dK D_FP_needStandby 5 rfl) q_292 (hw_10_3 hc0) (ltK rfl) (ltK rfl) rfl ?_
    refine vg_getO (pc := 12) (ci := 8) (f := 2) (dK D_FP_needStandby 6 rfl) q_232 (hw_4_0 (hw_10_3 hc0)) (ltK rfl) (ltK rfl) rfl ?_
    refine vg_getI (pc := 15) (ci := 7) (f := 2) (dK D_FP_needStandby 7 rfl) q_185 (hw_8_2 (hw_4_0 (hw_10_3 hc0))) (ltK rfl) (ltK rfl) rfl ?_
    refine vg_icmp_lt (pc := 18) (t := 32) (dK D_FP_needStandby 8 rfl) rfl ha1 (g_in _ _ _) (fun hc1 => ?_) (fun hc1 => ?_)
    · replace h := ifP h hc1
      exact g_return (pc := 32) (dK D_FP_needStandby 14 rfl) rfl (leK rfl) (leK rfl) (xf hfl) (by obtain rfl := Option.some.inj h; exact KT_ok ⟨rfl, rfl⟩)
    · replace h := ifN h hc1
      exact vg_throwW hfl (pc := 21) TH_FP_363_370 (dK D_FP_needStandby 9 rfl) (dK D_FP_needStandby 10 rfl) (dK D_FP_needStandby 11 rfl) (dK D_FP_needStandby 12 rfl) (dK D_FP_needStandby 13 rfl) rfl (leK rfl) (leK rfl) (leK rfl) (leK rfl) (leK rfl) (by obtain rfl := Option.some.inj h; exact KT_thr (e := 1) (by decide))
def fn_FP_standby (c0 : Nat) (a1 : Int) (a2 : Int) (S : St) : Option (Nat × Int) := bnO (fn_FP_needStandby c0 a1 S) fun p1 => if p1 = 0 then (if a2 = 0 then (if 0 ≤ a1 ∧ a1 < 8 then (some (0, (g S (tgt (tgt (tgt (tgt c0 3) 0) 2) 0) a1.toNat))) else none) else if a2 = 1 then (if 0 ≤ a1 ∧ a1 < 8 then (bnO (fn_FP_orNone (g S (tgt (tgt (tgt (tgt c0 3) 0) 2) 1) a1.toNat) S) fun p6 => some (0, p6)) else none) else (some (0, (-1)))) else (some (p1, 0))
theorem tf_FP_standby {E : EV} {X : XT} (hfl : X.2.2.2 = false) {c0 : Nat} (hc0 : HC X 10 c0) {a1 : Int} (ha1 : inR a1) {a2 : Int} (ha2 : inR a2) {S : St} {q : Nat × Int} (h : fn_FP_standby c0 a1 a2 S = some q) : Ev E M_FP_standby [.ref c0, V a1, V a2] (WX X S) 1 6 (KT X q.1 S (KI X q.2 S)) := by
  refine Ev.of pn_FP rfl (leK rfl) ?_
  show Go E M_FP_standby 1 6 0 [(0, .ref c0), (1, V a1), (2, V a2)] [] (WX X S) 0 0 (KT X q.1 S (KI X q.2 S))
  unfold fn_FP_standby at h
  refine g_aloadn (pc := 0) (i0 := 0) (j := 0) (dK D_FP_standby 0 rfl) rfl rfl ?_
  refine g_iloadn (pc := 1) (i0 := 1) (j := 1) (dK D_FP_standby 1 rfl) rfl rfl ?_
  refine bnE h (fun p1 e_p1 h => ?_)
  refine vg_cV (pc := 2) (As := [V a1]) (rest := []) (mc' := 1) (ms' := 6) (dK D_FP_standby 2 rfl) K_FP_200 (fitK rfl) (ltK rfl) hc0 rfl (leK rfl) (leK rfl) (leK rfl) (tf_FP_needStandby hfl hc0 ha1 e_p1) (kcT hfl (fun he7 => kcU ?_) (fun he7 => ⟨rfl, ?_⟩))
  · replace h := ifP h he7
    refine g_aloadn (pc := 5) (i0 := 0) (j := 0) (dK D_FP_standby 3 rfl) rfl rfl ?_
    refine vg_getO (pc := 6) (ci := 10) (f := 3) (dK D_FP_standby 4 rfl) q_425 hc0 (ltK rfl) (ltK rfl) rfl ?_
    refine vg_getO (pc := 9) (ci := 4) (f := 0) (dK D_FP_standby 5 rfl) q_292 (hw_10_3 hc0) (ltK rfl) (ltK rfl) rfl ?_
    refine vg_getO (pc := 12) (ci := 8) (f := 2) (dK D_FP_standby 6 rfl) q_232 (hw_4_0 (hw_10_3 hc0)) (ltK rfl) (ltK rfl) rfl ?_
    refine g_astoren (pc := 15) (i0 := 3) (ls2 := [(3, .ref (tgt (tgt (tgt c0 3) 0) 2)), (0, .ref c0), (1, V a1), (2, V a2)]) (dK D_FP_standby 7 rfl) rfl (ltK rfl) rfl ?_
    refine g_iloadn (pc := 16) (i0 := 2) (j := 3) (dK D_FP_standby 8 rfl) rfl rfl ?_
    by_cases hk2 : a2 = 0
    · have h := ifP h hk2
      refine vg_lkpK (pc := 17) (kk := 0) (t := 44) (dK D_FP_standby 9 rfl) rfl hk2 rfl rfl rfl ?_
      refine g_aloadn (pc := 44) (i0 := 3) (j := 0) (dK D_FP_standby 10 rfl) rfl rfl ?_
      refine vg_getA (pc := 45) (ci := 7) (f := 0) (dK D_FP_standby 11 rfl) q_179 (hw_8_2 (hw_4_0 (hw_10_3 hc0))) (ltK rfl) (ltK rfl) rfl ?_
      refine g_iloadn (pc := 48) (i0 := 1) (j := 2) (dK D_FP_standby 12 rfl) rfl rfl ?_
      refine gdE h (fun hi3 h => ?_)
      refine vg_iaload (pc := 49) (j := a1.toNat) (dK D_FP_standby 13 rfl) (hw_7_0 (hw_8_2 (hw_4_0 (hw_10_3 hc0)))) rfl hi3 rfl ?_
      exact vg_iretI (pc := 50) (r := (g S (tgt (tgt (tgt (tgt c0 3) 0) 2) 0) a1.toNat)) (dK D_FP_standby 14 rfl) rfl (leK rfl) (leK rfl) (xf hfl) (by obtain rfl := Option.some.inj h; exact KT_ok ⟨rfl, (g_in _ _ _), rfl⟩)
    replace h := ifN h hk2
    by_cases hk4 : a2 = 1
    · have h := ifP h hk4
      refine vg_lkpK (pc := 17) (kk := 1) (t := 51) (dK D_FP_standby 9 rfl) rfl hk4 rfl rfl rfl ?_
      refine g_aloadn (pc := 51) (i0 := 3) (j := 0) (dK D_FP_standby 15 rfl) rfl rfl ?_
      refine vg_getA (pc := 52) (ci := 7) (f := 1) (dK D_FP_standby 16 rfl) q_182 (hw_8_2 (hw_4_0 (hw_10_3 hc0))) (ltK rfl) (ltK rfl) rfl ?_
      refine g_iloadn (pc := 55) (i0 := 1) (j := 2) (dK D_FP_standby 17 rfl) rfl rfl ?_
      refine gdE h (fun hi5 h => ?_)
      refine vg_iaload (pc := 56) (j := a1.toNat) (dK D_FP_standby 18 rfl) (hw_7_1 (hw_8_2 (hw_4_0 (hw_10_3 hc0)))) rfl hi5 rfl ?_
      refine bnE h (fun p6 e_p6 h => ?_)
      refine vg_cS (pc := 57) (As := [V (g S (tgt (tgt (tgt (tgt c0 3) 0) 2) 1) a1.toNat)]) (rest := []) (mc' := 0) (ms' := 0) (dK D_FP_standby 19 rfl) K_FP_185 (fitK rfl) rfl (leK rfl) (leK rfl) (leK rfl) (tf_FP_orNone (g_in _ _ _) e_p6) (kcI (fun h_p6 => ?_))
      exact vg_iretI (pc := 60) (r := p6) (dK D_FP_standby 20 rfl) rfl (leK rfl) (leK rfl) (xf hfl) (by obtain rfl := Option.some.inj h; exact KT_ok ⟨rfl, h_p6, rfl⟩)
    replace h := ifN h hk4
    refine vg_lkpD (pc := 17) (t := 61) (dK D_FP_standby 9 rfl) rfl ha2 (List.forall_mem_cons.mpr ⟨fun e => hk2 e.symm, (List.forall_mem_cons.mpr ⟨fun e => hk4 e.symm, (fun _ h => absurd h List.not_mem_nil)⟩)⟩) rfl ?_
    refine vg_iconst (pc := 61) (dK D_FP_standby 21 rfl) ?_
    exact vg_iretI (pc := 62) (r := (-1)) (dK D_FP_standby 22 rfl) rfl (leK rfl) (leK rfl) (xf hfl) (by obtain rfl := Option.some.inj h; exact KT_ok ⟨rfl, (inRk rfl), rfl⟩)
  · replace h := ifN h he7
    obtain rfl := Option.some.inj h
    exact KT_thr he7
def fn_Law_standby (c0 : Nat) (a1 : Int) (a2 : Int) (c3 : Nat) (S : St) : Option (Int × St) := bnO (fn_FP_standby c0 a1 a2 S) fun p1 => if p1.1 = 0 then (nm (ul S c3 0 p1.2) fun S2 => some (0, S2)) else (if p1.1 = 1 then (some (1, S)) else none)
theorem tf_Law_standby {E : EV} {X : XT} (hfl : X.2.2.2 = false) {c0 : Nat} (hc0 : HC X 10 c0) {a1 : Int} (ha1 : inR a1) {a2 : Int} (ha2 : inR a2) {c3 : Nat} (hc3 : HA X 3 1 c3) {S : St} {q : Int × St} (h : fn_Law_standby c0 a1 a2 c3 S = some q) : EvH E M_Law_standby [.ref c0, V a1, V a2, .ref c3] (WX X S) 1 6 (KI X q.1 q.2) := by
  refine EvH.of pn_Law (leK rfl) ?_
  show Go E M_Law_standby 1 6 0 [(0, .ref c0), (1, V a1), (2, V a2), (3, .ref c3)] [] (WX X S) 0 0 (KI X q.1 q.2)
  unfold fn_Law_standby at h
  refine g_aloadn (pc := 0) (i0 := 3) (j := 3) (dK D_Law_standby 0 rfl) rfl rfl ?_
  refine vg_iconst (pc := 1) (dK D_Law_standby 1 rfl) ?_
  refine g_aloadn (pc := 2) (i0 := 0) (j := 0) (dK D_Law_standby 2 rfl) rfl rfl ?_
  refine g_iloadn (pc := 3) (i0 := 1) (j := 1) (dK D_Law_standby 3 rfl) rfl rfl ?_
  refine g_iloadn (pc := 4) (i0 := 2) (j := 2) (dK D_Law_standby 4 rfl) rfl rfl ?_
  refine bnE h (fun p1 e_p1 h => ?_)
  refine vg_cVX hfl (pc := 5) (As := [V a1, V a2]) (rest := [V 0, .ref c3]) (mc' := 1) (ms' := 6) (dK D_Law_standby 5 rfl) K_Law_31 (fitK rfl) (ltK rfl) hc0 rfl (leK rfl) (leK rfl) (leK rfl) (tf_FP_standby hfl hc0 ha1 ha2 e_p1) (kxT hfl (fun he3 => kxI hfl (fun h_p1 => ?_)) (fun he3 => ?_))
  · replace h := ifP h he3
    refine vg_i2l (pc := 8) (dK D_Law_standby 6 rfl) h_p1 ?_
    refine nmE h (fun S2 e_S2 h => ?_)
    refine vg_lastore (pc := 9) (z := p1.2) (dK D_Law_standby 7 rfl) hc3 rfl ⟨by decide, by decide⟩ rfl e_S2 ?_
    refine g_goto (pc := 10) (tgt := 17) (dK D_Law_standby 8 rfl) rfl ?_
    refine vg_iconst (pc := 17) (dK D_Law_standby 12 rfl) ?_
    exact vg_iretI (pc := 18) (r := 0) (dK D_Law_standby 13 rfl) rfl (leK rfl) (leK rfl) (xf hfl) (by obtain rfl := Option.some.inj h; exact ⟨rfl, (inRk rfl), rfl⟩)
  · replace h := ifN h he3
    by_cases hq4 : p1.1 = 1
    · have h := ifP h hq4
      rw [hq4]
      exact ⟨_, CT_Law_standby_5_1, (by obtain rfl := Option.some.inj h; exact ⟨rfl, (inRk rfl), rfl⟩)⟩
    · replace h := ifN h hq4
      exact nomatch h
def fn_FP_needPage (c0 : Nat) (a1 : Int) (S : St) : Option (Nat) := bnO (fn_Plan_hasPage (tgt c0 3) a1 S) fun p1 => if p1 = true then (some 0) else (some 1)
theorem tf_FP_needPage {E : EV} {X : XT} (hfl : X.2.2.2 = false) {c0 : Nat} (hc0 : HC X 10 c0) {a1 : Int} (ha1 : inR a1) {S : St} {q : Nat} (h : fn_FP_needPage c0 a1 S = some q) : Ev E M_FP_needPage [.ref c0, V a1] (WX X S) 1 6 (KT X q S (KU X S)) := by
  refine Ev.of pn_FP rfl (leK rfl) ?_
  show Go E M_FP_needPage 1 6 0 [(0, .ref c0), (1, V a1)] [] (WX X S) 0 0 (KT X q S (KU X S))
  unfold fn_FP_needPage at h
  refine g_aloadn (pc := 0) (i0 := 0) (j := 0) (dK D_FP_needPage 0 rfl) rfl rfl ?_
  refine vg_getO (pc := 1) (ci := 10) (f := 3) (dK D_FP_needPage 1 rfl) q_425 hc0 (ltK rfl) (ltK rfl) rfl ?_
  refine g_iloadn (pc := 4) (i0 := 1) (j := 1) (dK D_FP_needPage 2 rfl) rfl rfl ?_
  refine bnE h (fun p1 e_p1 h => ?_)
  refine vg_cV (pc := 5) (As := [V a1]) (rest := []) (mc' := 0) (ms' := 0) (dK D_FP_needPage 3 rfl) K_FP_372 (fitK rfl) (ltK rfl) (hw_10_3 hc0) rfl (leK rfl) (leK rfl) (leK rfl) (tf_Plan_hasPage (hw_10_3 hc0) ha1 e_p1) (kcB ?_)
  refine vg_ifB_ne (pc := 8) (b := p1) (t := 22) (dK D_FP_needPage 4 rfl) rfl (fun hc2 => ?_) (fun hc2 => ?_)
  · replace h := ifP h hc2
    exact g_return (pc := 22) (dK D_FP_needPage 10 rfl) rfl (leK rfl) (leK rfl) (xf hfl) (by obtain rfl := Option.some.inj h; exact KT_ok ⟨rfl, rfl⟩)
  · replace h := ifN h hc2
    exact vg_throwW hfl (pc := 11) TH_FP_363_375 (dK D_FP_needPage 5 rfl) (dK D_FP_needPage 6 rfl) (dK D_FP_needPage 7 rfl) (dK D_FP_needPage 8 rfl) (dK D_FP_needPage 9 rfl) rfl (leK rfl) (leK rfl) (leK rfl) (leK rfl) (leK rfl) (by obtain rfl := Option.some.inj h; exact KT_thr (e := 1) (by decide))
def lb_FP_standing_5 (nc0 : Nat) (c0 : Nat) (a1 : Int) (a2 : Int) (S : St) (go : Int × Int → Option (Int)) (a3 : Int) (a4 : Int) : Option (Int) := if a1 ≤ a4 then (some a3) else (if (nc0 : Int) ≤ a4 then (some a3) else (if 0 ≤ a4 ∧ a4 < (nc0 : Int) then (if (g S c0 a4.toNat) = a2 then (nm (wr (a3 + 1)) fun v3 => nm (wr (a4 + 1)) fun v4 => go (v3, v4)) else (nm (wr (a4 + 1)) fun v2 => go (a3, v2))) else none))
def lo_FP_standing_5 (nc0 : Nat) (c0 : Nat) (a1 : Int) (a2 : Int) (S : St) : Nat → Int × Int → Option (Int) := lp fun go p => lb_FP_standing_5 nc0 c0 a1 a2 S go p.1 p.2
theorem tl_FP_standing_5 {E : EV} {X : XT} {nc0 c0 : Nat} (hnc0 : Nat.ble nc0 99999 = true) (hc0 : HA X 0 nc0 c0) {a1 : Int} (ha1 : inR a1) {a2 : Int} (ha2 : inR a2) {S : St} {K : RK → PS → Prop} {q : Int} (hx : inR q → Go E M_FP_standing 0 0 35 [(3, V q)] [] (WX X S) 0 0 K) : ∀ n a, lo_FP_standing_5 nc0 c0 a1 a2 S n a = some q → inR a.1 → inR a.2 → Go E M_FP_standing 0 0 5 [(0, .ref c0), (1, V a1), (2, V a2), (3, V a.1), (4, V a.2)] [] (WX X S) 0 0 K := by
  refine lp_ind (P := fun a : Int × Int => inR a.1 → inR a.2 → Go E M_FP_standing 0 0 5 [(0, .ref c0), (1, V a1), (2, V a2), (3, V a.1), (4, V a.2)] [] (WX X S) 0 0 K) (fun go ih a h => ?_)
  obtain ⟨a3, a4⟩ := a
  intro ha3 ha4
  show Go E M_FP_standing 0 0 5 [(0, .ref c0), (1, V a1), (2, V a2), (3, V a3), (4, V a4)] [] (WX X S) 0 0 K
  replace h : lb_FP_standing_5 nc0 c0 a1 a2 S go a3 a4 = some q := h
  unfold lb_FP_standing_5 at h
  refine g_iload (pc := 5) (j := 4) (dK D_FP_standing 4 rfl) rfl ?_
  refine g_iloadn (pc := 7) (i0 := 1) (j := 1) (dK D_FP_standing 5 rfl) rfl rfl ?_
  refine vg_icmp_ge (pc := 8) (t := 35) (dK D_FP_standing 6 rfl) rfl ha4 ha1 (fun hc7 => ?_) (fun hc7 => ?_)
  · replace h := ifP h hc7
    obtain rfl := Option.some.inj h
    refine gL_weak (ls' := [(3, V a3)]) (sbc 3 rfl sbn) ?_
    exact hx ha3
  · replace h := ifN h hc7
    refine g_iload (pc := 11) (j := 4) (dK D_FP_standing 7 rfl) rfl ?_
    refine g_aloadn (pc := 13) (i0 := 0) (j := 0) (dK D_FP_standing 8 rfl) rfl rfl ?_
    refine vg_alen (pc := 14) (dK D_FP_standing 9 rfl) (ltK rfl) hc0 ?_
    refine vg_icmp_ge (pc := 15) (t := 35) (dK D_FP_standing 10 rfl) rfl ha4 (inR_nat hnc0) (fun hc6 => ?_) (fun hc6 => ?_)
    · replace h := ifP h hc6
      obtain rfl := Option.some.inj h
      refine gL_weak (ls' := [(3, V a3)]) (sbc 3 rfl sbn) ?_
      exact hx ha3
    · replace h := ifN h hc6
      refine g_aloadn (pc := 18) (i0 := 0) (j := 0) (dK D_FP_standing 11 rfl) rfl rfl ?_
      refine g_iload (pc := 19) (j := 4) (dK D_FP_standing 12 rfl) rfl ?_
      refine gdE h (fun hi1 h => ?_)
      refine vg_iaload (pc := 21) (j := a4.toNat) (dK D_FP_standing 13 rfl) hc0 hnc0 hi1 rfl ?_
      refine g_iloadn (pc := 22) (i0 := 2) (j := 2) (dK D_FP_standing 14 rfl) rfl rfl ?_
      refine vg_icmp_ne (pc := 23) (t := 29) (dK D_FP_standing 15 rfl) rfl (g_in _ _ _) ha2 (fun hc5 => ?_) (fun hc5 => ?_)
      · replace h := ifN h hc5
        refine nmE h (fun v2 e_v2 h => ?_)
        refine vg_iinc (pc := 29) (j := 4) (a := a4) (z := 1) (ls2 := [(4, V v2), (0, .ref c0), (1, V a1), (2, V a2), (3, V a3)]) (dK D_FP_standing 17 rfl) rfl e_v2 (ltK rfl) rfl ?_
        refine g_goto (pc := 32) (tgt := 5) (dK D_FP_standing 18 rfl) rfl ?_
        refine gL_weak (ls' := [(0, .ref c0), (1, V a1), (2, V a2), (3, V a3), (4, V v2)]) (sbc 1 rfl (sbc 2 rfl (sbc 3 rfl (sbc 4 rfl (sbc 0 rfl sbn))))) ?_
        replace h := ih _ h
        exact h ha3 (Vn_in e_v2)
      · replace h := ifP h hc5
        refine nmE h (fun v3 e_v3 h => ?_)
        refine vg_iinc (pc := 26) (j := 3) (a := a3) (z := 1) (ls2 := [(3, V v3), (0, .ref c0), (1, V a1), (2, V a2), (4, V a4)]) (dK D_FP_standing 16 rfl) rfl e_v3 (ltK rfl) rfl ?_
        refine nmE h (fun v4 e_v4 h => ?_)
        refine vg_iinc (pc := 29) (j := 4) (a := a4) (z := 1) (ls2 := [(4, V v4), (3, V v3), (0, .ref c0), (1, V a1), (2, V a2)]) (dK D_FP_standing 17 rfl) rfl e_v4 (ltK rfl) rfl ?_
        refine g_goto (pc := 32) (tgt := 5) (dK D_FP_standing 18 rfl) rfl ?_
        refine gL_weak (ls' := [(0, .ref c0), (1, V a1), (2, V a2), (3, V v3), (4, V v4)]) (sbc 2 rfl (sbc 3 rfl (sbc 4 rfl (sbc 1 rfl (sbc 0 rfl sbn))))) ?_
        replace h := ih _ h
        exact h (Vn_in e_v3) (Vn_in e_v4)
def fn_FP_standing (n0 : Nat) (c0 : Nat) (a1 : Int) (a2 : Int) (S : St) : Option (Int) := bnO (lo_FP_standing_5 n0 c0 a1 a2 S FU (0, 0)) fun p8 => some p8
theorem tf_FP_standing {E : EV} {X : XT} {n0 c0 : Nat} (hn0 : Nat.ble n0 99999 = true) (hc0 : HA X 0 n0 c0) {a1 : Int} (ha1 : inR a1) {a2 : Int} (ha2 : inR a2) {S : St} {q : Int} (h : fn_FP_standing n0 c0 a1 a2 S = some q) : Ev E M_FP_standing [.ref c0, V a1, V a2] (WX X S) 0 0 (KI X q S) := by
  refine Ev.of pn_FP rfl (leK rfl) ?_
  show Go E M_FP_standing 0 0 0 [(0, .ref c0), (1, V a1), (2, V a2)] [] (WX X S) 0 0 (KI X q S)
  unfold fn_FP_standing at h
  refine vg_iconst (pc := 0) (dK D_FP_standing 0 rfl) ?_
  refine g_istoren (pc := 1) (i0 := 3) (ls2 := [(3, V 0), (0, .ref c0), (1, V a1), (2, V a2)]) (dK D_FP_standing 1 rfl) rfl (ltK rfl) rfl ?_
  refine vg_iconst (pc := 2) (dK D_FP_standing 2 rfl) ?_
  refine g_istore (pc := 3) (ls2 := [(4, V 0), (3, V 0), (0, .ref c0), (1, V a1), (2, V a2)]) (dK D_FP_standing 3 rfl) (ltK rfl) rfl ?_
  refine bnE h (fun p8 e_p8 h => ?_)
  refine gL_weak (ls' := [(0, .ref c0), (1, V a1), (2, V a2), (3, V 0), (4, V 0)]) (sbc 2 rfl (sbc 3 rfl (sbc 4 rfl (sbc 1 rfl (sbc 0 rfl sbn))))) ?_
  refine tl_FP_standing_5 hn0 hc0 ha1 ha2 (fun hx3_p8 => ?_) FU (0, 0) e_p8 (inRk rfl) (inRk rfl)
  refine g_iloadn (pc := 35) (i0 := 3) (j := 0) (dK D_FP_standing 19 rfl) rfl rfl ?_
  exact vg_iretI (pc := 36) (r := p8) (dK D_FP_standing 20 rfl) rfl (leK rfl) (leK rfl) (fun _ => rfl) (by obtain rfl := Option.some.inj h; exact ⟨rfl, hx3_p8, rfl⟩)
def fn_FP_page (c0 : Nat) (a1 : Int) (a2 : Int) (S : St) : Option (Nat × Int) := bnO (fn_FP_needPage c0 a1 S) fun p1 => if p1 = 0 then (if a2 = 0 then (some (0, (wr (a1.tdiv 2)))) else if a2 = 1 then (if 0 ≤ a1 ∧ a1 < 65 then (some (0, (g S (tgt (tgt c0 3) 4) a1.toNat))) else none) else if a2 = 2 then (if 0 ≤ a1 ∧ a1 < 65 then (some (0, (g S (tgt (tgt c0 3) 3) a1.toNat))) else none) else if a2 = 3 then (if 0 ≤ a1 ∧ a1 < 65 then (some (0, (g S (tgt (tgt c0 3) 5) a1.toNat))) else none) else if a2 = 4 then (bnO (fn_FP_standing 40 (tgt (tgt (tgt (tgt c0 3) 0) 0) 6) (g S (tgt (tgt (tgt c0 3) 0) 0) 7) a1 S) fun p10 => some (0, p10)) else if a2 = 5 then (if 0 ≤ a1 ∧ a1 < 65 then (some (0, (g S (tgt (tgt c0 3) 6) a1.toNat))) else none) else if a2 = 6 then (bnO (fn_FP_standing 8 (tgt (tgt (tgt (tgt c0 3) 0) 2) 1) (g S (tgt (tgt (tgt c0 3) 0) 2) 2) a1 S) fun p14 => some (0, p14)) else (some (0, (-1)))) else (some (p1, 0))
theorem tf_FP_page {E : EV} {X : XT} (hfl : X.2.2.2 = false) {c0 : Nat} (hc0 : HC X 10 c0) {a1 : Int} (ha1 : inR a1) {a2 : Int} (ha2 : inR a2) {S : St} {q : Nat × Int} (h : fn_FP_page c0 a1 a2 S = some q) : Ev E M_FP_page [.ref c0, V a1, V a2] (WX X S) 1 6 (KT X q.1 S (KI X q.2 S)) := by
  refine Ev.of pn_FP rfl (leK rfl) ?_
  show Go E M_FP_page 1 6 0 [(0, .ref c0), (1, V a1), (2, V a2)] [] (WX X S) 0 0 (KT X q.1 S (KI X q.2 S))
  unfold fn_FP_page at h
  refine g_aloadn (pc := 0) (i0 := 0) (j := 0) (dK D_FP_page_0 0 rfl) rfl rfl ?_
  refine g_iloadn (pc := 1) (i0 := 1) (j := 1) (dK D_FP_page_0 1 rfl) rfl rfl ?_
  refine bnE h (fun p1 e_p1 h => ?_)
  refine vg_cV (pc := 2) (As := [V a1]) (rest := []) (mc' := 1) (ms' := 6) (dK D_FP_page_0 2 rfl) K_FP_204 (fitK rfl) (ltK rfl) hc0 rfl (leK rfl) (leK rfl) (leK rfl) (tf_FP_needPage hfl hc0 ha1 e_p1) (kcT hfl (fun he15 => kcU ?_) (fun he15 => ⟨rfl, ?_⟩))
  · replace h := ifP h he15
    refine g_iloadn (pc := 5) (i0 := 2) (j := 2) (dK D_FP_page_0 3 rfl) rfl rfl ?_
    by_cases hk2 : a2 = 0
    · have h := ifP h hk2
      refine vg_tabK (pc := 6) (kk := 0) (t := 48) (dK D_FP_page_0 4 rfl) hk2 rfl rfl rfl rfl ?_
      refine g_iloadn (pc := 48) (i0 := 1) (j := 1) (dK D_FP_page_0 5 rfl) rfl rfl ?_
      refine vg_iconst (pc := 49) (dK D_FP_page_0 6 rfl) ?_
      refine vg_idiv (pc := 50) (dK D_FP_page_0 7 rfl) ha1 (inRk rfl) (by decide) ?_
      refine gtop (x := (wr (a1.tdiv 2))) rfl ?_
      exact vg_iretI (pc := 51) (r := (wr (a1.tdiv 2))) (dK D_FP_page_0 8 rfl) rfl (leK rfl) (leK rfl) (xf hfl) (by obtain rfl := Option.some.inj h; exact KT_ok ⟨rfl, (wr_in _), rfl⟩)
    replace h := ifN h hk2
    by_cases hk3 : a2 = 1
    · have h := ifP h hk3
      refine vg_tabK (pc := 6) (kk := 1) (t := 52) (dK D_FP_page_0 4 rfl) hk3 rfl rfl rfl rfl ?_
      refine g_aloadn (pc := 52) (i0 := 0) (j := 0) (dK D_FP_page_0 9 rfl) rfl rfl ?_
      refine vg_getO (pc := 53) (ci := 10) (f := 3) (dK D_FP_page_0 10 rfl) q_425 hc0 (ltK rfl) (ltK rfl) rfl ?_
      refine vg_getA (pc := 56) (ci := 4) (f := 4) (dK D_FP_page_0 11 rfl) q_306 (hw_10_3 hc0) (ltK rfl) (ltK rfl) rfl ?_
      refine g_iloadn (pc := 59) (i0 := 1) (j := 1) (dK D_FP_page_0 12 rfl) rfl rfl ?_
      refine gdE h (fun hi4 h => ?_)
      refine vg_iaload (pc := 60) (j := a1.toNat) (dK D_FP_page_0 13 rfl) (hw_4_4 (hw_10_3 hc0)) rfl hi4 rfl ?_
      exact vg_iretI (pc := 61) (r := (g S (tgt (tgt c0 3) 4) a1.toNat)) (dK D_FP_page_0 14 rfl) rfl (leK rfl) (leK rfl) (xf hfl) (by obtain rfl := Option.some.inj h; exact KT_ok ⟨rfl, (g_in _ _ _), rfl⟩)
    replace h := ifN h hk3
    by_cases hk5 : a2 = 2
    · have h := ifP h hk5
      refine vg_tabK (pc := 6) (kk := 2) (t := 62) (dK D_FP_page_0 4 rfl) hk5 rfl rfl rfl rfl ?_
      refine g_aloadn (pc := 62) (i0 := 0) (j := 0) (dK D_FP_page_0 15 rfl) rfl rfl ?_
      refine vg_getO (pc := 63) (ci := 10) (f := 3) (dK D_FP_page_0 16 rfl) q_425 hc0 (ltK rfl) (ltK rfl) rfl ?_
      refine vg_getA (pc := 66) (ci := 4) (f := 3) (dK D_FP_page_0 17 rfl) q_303 (hw_10_3 hc0) (ltK rfl) (ltK rfl) rfl ?_
      refine g_iloadn (pc := 69) (i0 := 1) (j := 1) (dK D_FP_page_0 18 rfl) rfl rfl ?_
      refine gdE h (fun hi6 h => ?_)
      refine vg_iaload (pc := 70) (j := a1.toNat) (dK D_FP_page_0 19 rfl) (hw_4_3 (hw_10_3 hc0)) rfl hi6 rfl ?_
      exact vg_iretI (pc := 71) (r := (g S (tgt (tgt c0 3) 3) a1.toNat)) (dK D_FP_page_0 20 rfl) rfl (leK rfl) (leK rfl) (xf hfl) (by obtain rfl := Option.some.inj h; exact KT_ok ⟨rfl, (g_in _ _ _), rfl⟩)
    replace h := ifN h hk5
    by_cases hk7 : a2 = 3
    · have h := ifP h hk7
      refine vg_tabK (pc := 6) (kk := 3) (t := 72) (dK D_FP_page_0 4 rfl) hk7 rfl rfl rfl rfl ?_
      refine g_aloadn (pc := 72) (i0 := 0) (j := 0) (dK D_FP_page_0 21 rfl) rfl rfl ?_
      refine vg_getO (pc := 73) (ci := 10) (f := 3) (dK D_FP_page_0 22 rfl) q_425 hc0 (ltK rfl) (ltK rfl) rfl ?_
      refine vg_getA (pc := 76) (ci := 4) (f := 5) (dK D_FP_page_0 23 rfl) q_308 (hw_10_3 hc0) (ltK rfl) (ltK rfl) rfl ?_
      refine g_iloadn (pc := 79) (i0 := 1) (j := 1) (dK D_FP_page_0 24 rfl) rfl rfl ?_
      refine gdE h (fun hi8 h => ?_)
      refine vg_iaload (pc := 80) (j := a1.toNat) (dK D_FP_page_0 25 rfl) (hw_4_5 (hw_10_3 hc0)) rfl hi8 rfl ?_
      exact vg_iretI (pc := 81) (r := (g S (tgt (tgt c0 3) 5) a1.toNat)) (dK D_FP_page_0 26 rfl) rfl (leK rfl) (leK rfl) (xf hfl) (by obtain rfl := Option.some.inj h; exact KT_ok ⟨rfl, (g_in _ _ _), rfl⟩)
    replace h := ifN h hk7
    by_cases hk9 : a2 = 4
    · have h := ifP h hk9
      refine vg_tabK (pc := 6) (kk := 4) (t := 82) (dK D_FP_page_0 4 rfl) hk9 rfl rfl rfl rfl ?_
      refine g_aloadn (pc := 82) (i0 := 0) (j := 0) (dK D_FP_page_0 27 rfl) rfl rfl ?_
      refine vg_getO (pc := 83) (ci := 10) (f := 3) (dK D_FP_page_0 28 rfl) q_425 hc0 (ltK rfl) (ltK rfl) rfl ?_
      refine vg_getO (pc := 86) (ci := 4) (f := 0) (dK D_FP_page_0 29 rfl) q_292 (hw_10_3 hc0) (ltK rfl) (ltK rfl) rfl ?_
      refine vg_getO (pc := 89) (ci := 8) (f := 0) (dK D_FP_page_0 30 rfl) q_224 (hw_4_0 (hw_10_3 hc0)) (ltK rfl) (ltK rfl) rfl ?_
      refine vg_getA (pc := 92) (ci := 0) (f := 6) (dK D_FP_page_0 31 rfl) q_103 (hw_8_0 (hw_4_0 (hw_10_3 hc0))) (ltK rfl) (ltK rfl) rfl ?_
      refine g_aloadn (pc := 95) (i0 := 0) (j := 0) (dK D_FP_page_0 32 rfl) rfl rfl ?_
      refine vg_getO (pc := 96) (ci := 10) (f := 3) (dK D_FP_page_0 33 rfl) q_425 hc0 (ltK rfl) (ltK rfl) rfl ?_
      refine vg_getO (pc := 99) (ci := 4) (f := 0) (dK D_FP_page_0 34 rfl) q_292 (hw_10_3 hc0) (ltK rfl) (ltK rfl) rfl ?_
      refine vg_getO (pc := 102) (ci := 8) (f := 0) (dK D_FP_page_0 35 rfl) q_224 (hw_4_0 (hw_10_3 hc0)) (ltK rfl) (ltK rfl) rfl ?_
      refine vg_getI (pc := 105) (ci := 0) (f := 7) (dK D_FP_page_0 36 rfl) q_109 (hw_8_0 (hw_4_0 (hw_10_3 hc0))) (ltK rfl) (ltK rfl) rfl ?_
      refine g_iloadn (pc := 108) (i0 := 1) (j := 1) (dK D_FP_page_0 37 rfl) rfl rfl ?_
      refine bnE h (fun p10 e_p10 h => ?_)
      refine vg_cS (pc := 109) (As := [.ref (tgt (tgt (tgt (tgt c0 3) 0) 0) 6), V (g S (tgt (tgt (tgt c0 3) 0) 0) 7), V a1]) (rest := []) (mc' := 0) (ms' := 0) (dK D_FP_page_0 38 rfl) K_FP_216 (fitK rfl) rfl (leK rfl) (leK rfl) (leK rfl) (tf_FP_standing rfl (hw_0_6 (hw_8_0 (hw_4_0 (hw_10_3 hc0)))) (g_in _ _ _) ha1 e_p10) (kcI (fun h_p10 => ?_))
      exact vg_iretI (pc := 112) (r := p10) (dK D_FP_page_0 39 rfl) rfl (leK rfl) (leK rfl) (xf hfl) (by obtain rfl := Option.some.inj h; exact KT_ok ⟨rfl, h_p10, rfl⟩)
    replace h := ifN h hk9
    by_cases hk11 : a2 = 5
    · have h := ifP h hk11
      refine vg_tabK (pc := 6) (kk := 5) (t := 113) (dK D_FP_page_0 4 rfl) hk11 rfl rfl rfl rfl ?_
      refine g_aloadn (pc := 113) (i0 := 0) (j := 0) (dK D_FP_page_0 40 rfl) rfl rfl ?_
      refine vg_getO (pc := 114) (ci := 10) (f := 3) (dK D_FP_page_0 41 rfl) q_425 hc0 (ltK rfl) (ltK rfl) rfl ?_
      refine vg_getA (pc := 117) (ci := 4) (f := 6) (dK D_FP_page_0 42 rfl) q_311 (hw_10_3 hc0) (ltK rfl) (ltK rfl) rfl ?_
      refine g_iloadn (pc := 120) (i0 := 1) (j := 1) (dK D_FP_page_0 43 rfl) rfl rfl ?_
      refine gdE h (fun hi12 h => ?_)
      refine vg_iaload (pc := 121) (j := a1.toNat) (dK D_FP_page_0 44 rfl) (hw_4_6 (hw_10_3 hc0)) rfl hi12 rfl ?_
      exact vg_iretI (pc := 122) (r := (g S (tgt (tgt c0 3) 6) a1.toNat)) (dK D_FP_page_0 45 rfl) rfl (leK rfl) (leK rfl) (xf hfl) (by obtain rfl := Option.some.inj h; exact KT_ok ⟨rfl, (g_in _ _ _), rfl⟩)
    replace h := ifN h hk11
    by_cases hk13 : a2 = 6
    · have h := ifP h hk13
      refine vg_tabK (pc := 6) (kk := 6) (t := 123) (dK D_FP_page_0 4 rfl) hk13 rfl rfl rfl rfl ?_
      refine g_aloadn (pc := 123) (i0 := 0) (j := 0) (dK D_FP_page_0 46 rfl) rfl rfl ?_
      refine vg_getO (pc := 124) (ci := 10) (f := 3) (dK D_FP_page_0 47 rfl) q_425 hc0 (ltK rfl) (ltK rfl) rfl ?_
      refine vg_getO (pc := 127) (ci := 4) (f := 0) (dK D_FP_page_0 48 rfl) q_292 (hw_10_3 hc0) (ltK rfl) (ltK rfl) rfl ?_
      refine vg_getO (pc := 130) (ci := 8) (f := 2) (dK D_FP_page_0 49 rfl) q_232 (hw_4_0 (hw_10_3 hc0)) (ltK rfl) (ltK rfl) rfl ?_
      refine vg_getA (pc := 133) (ci := 7) (f := 1) (dK D_FP_page_1 0 rfl) q_182 (hw_8_2 (hw_4_0 (hw_10_3 hc0))) (ltK rfl) (ltK rfl) rfl ?_
      refine g_aloadn (pc := 136) (i0 := 0) (j := 0) (dK D_FP_page_1 1 rfl) rfl rfl ?_
      refine vg_getO (pc := 137) (ci := 10) (f := 3) (dK D_FP_page_1 2 rfl) q_425 hc0 (ltK rfl) (ltK rfl) rfl ?_
      refine vg_getO (pc := 140) (ci := 4) (f := 0) (dK D_FP_page_1 3 rfl) q_292 (hw_10_3 hc0) (ltK rfl) (ltK rfl) rfl ?_
      refine vg_getO (pc := 143) (ci := 8) (f := 2) (dK D_FP_page_1 4 rfl) q_232 (hw_4_0 (hw_10_3 hc0)) (ltK rfl) (ltK rfl) rfl ?_
      refine vg_getI (pc := 146) (ci := 7) (f := 2) (dK D_FP_page_1 5 rfl) q_185 (hw_8_2 (hw_4_0 (hw_10_3 hc0))) (ltK rfl) (ltK rfl) rfl ?_
      refine g_iloadn (pc := 149) (i0 := 1) (j := 1) (dK D_FP_page_1 6 rfl) rfl rfl ?_
      refine bnE h (fun p14 e_p14 h => ?_)
      refine vg_cS (pc := 150) (As := [.ref (tgt (tgt (tgt (tgt c0 3) 0) 2) 1), V (g S (tgt (tgt (tgt c0 3) 0) 2) 2), V a1]) (rest := []) (mc' := 0) (ms' := 0) (dK D_FP_page_1 7 rfl) K_FP_216 (fitK rfl) rfl (leK rfl) (leK rfl) (leK rfl) (tf_FP_standing rfl (hw_7_1 (hw_8_2 (hw_4_0 (hw_10_3 hc0)))) (g_in _ _ _) ha1 e_p14) (kcI (fun h_p14 => ?_))
      exact vg_iretI (pc := 153) (r := p14) (dK D_FP_page_1 8 rfl) rfl (leK rfl) (leK rfl) (xf hfl) (by obtain rfl := Option.some.inj h; exact KT_ok ⟨rfl, h_p14, rfl⟩)
    replace h := ifN h hk13
    refine vg_tabD (pc := 6) (t := 154) (lo := 0) (hi := 6) (dK D_FP_page_0 4 rfl) ha2 (by omega) rfl ?_
    refine vg_iconst (pc := 154) (dK D_FP_page_1 9 rfl) ?_
    exact vg_iretI (pc := 155) (r := (-1)) (dK D_FP_page_1 10 rfl) rfl (leK rfl) (leK rfl) (xf hfl) (by obtain rfl := Option.some.inj h; exact KT_ok ⟨rfl, (inRk rfl), rfl⟩)
  · replace h := ifN h he15
    obtain rfl := Option.some.inj h
    exact KT_thr he15
def fn_Law_page (c0 : Nat) (a1 : Int) (a2 : Int) (c3 : Nat) (S : St) : Option (Int × St) := bnO (fn_FP_page c0 a1 a2 S) fun p1 => if p1.1 = 0 then (nm (ul S c3 0 p1.2) fun S2 => some (0, S2)) else (if p1.1 = 1 then (some (1, S)) else none)
theorem tf_Law_page {E : EV} {X : XT} (hfl : X.2.2.2 = false) {c0 : Nat} (hc0 : HC X 10 c0) {a1 : Int} (ha1 : inR a1) {a2 : Int} (ha2 : inR a2) {c3 : Nat} (hc3 : HA X 3 1 c3) {S : St} {q : Int × St} (h : fn_Law_page c0 a1 a2 c3 S = some q) : EvH E M_Law_page [.ref c0, V a1, V a2, .ref c3] (WX X S) 1 6 (KI X q.1 q.2) := by
  refine EvH.of pn_Law (leK rfl) ?_
  show Go E M_Law_page 1 6 0 [(0, .ref c0), (1, V a1), (2, V a2), (3, .ref c3)] [] (WX X S) 0 0 (KI X q.1 q.2)
  unfold fn_Law_page at h
  refine g_aloadn (pc := 0) (i0 := 3) (j := 3) (dK D_Law_page 0 rfl) rfl rfl ?_
  refine vg_iconst (pc := 1) (dK D_Law_page 1 rfl) ?_
  refine g_aloadn (pc := 2) (i0 := 0) (j := 0) (dK D_Law_page 2 rfl) rfl rfl ?_
  refine g_iloadn (pc := 3) (i0 := 1) (j := 1) (dK D_Law_page 3 rfl) rfl rfl ?_
  refine g_iloadn (pc := 4) (i0 := 2) (j := 2) (dK D_Law_page 4 rfl) rfl rfl ?_
  refine bnE h (fun p1 e_p1 h => ?_)
  refine vg_cVX hfl (pc := 5) (As := [V a1, V a2]) (rest := [V 0, .ref c3]) (mc' := 1) (ms' := 6) (dK D_Law_page 5 rfl) K_Law_34 (fitK rfl) (ltK rfl) hc0 rfl (leK rfl) (leK rfl) (leK rfl) (tf_FP_page hfl hc0 ha1 ha2 e_p1) (kxT hfl (fun he3 => kxI hfl (fun h_p1 => ?_)) (fun he3 => ?_))
  · replace h := ifP h he3
    refine vg_i2l (pc := 8) (dK D_Law_page 6 rfl) h_p1 ?_
    refine nmE h (fun S2 e_S2 h => ?_)
    refine vg_lastore (pc := 9) (z := p1.2) (dK D_Law_page 7 rfl) hc3 rfl ⟨by decide, by decide⟩ rfl e_S2 ?_
    refine g_goto (pc := 10) (tgt := 17) (dK D_Law_page 8 rfl) rfl ?_
    refine vg_iconst (pc := 17) (dK D_Law_page 12 rfl) ?_
    exact vg_iretI (pc := 18) (r := 0) (dK D_Law_page 13 rfl) rfl (leK rfl) (leK rfl) (xf hfl) (by obtain rfl := Option.some.inj h; exact ⟨rfl, (inRk rfl), rfl⟩)
  · replace h := ifN h he3
    by_cases hq4 : p1.1 = 1
    · have h := ifP h hq4
      rw [hq4]
      exact ⟨_, CT_Law_page_5_1, (by obtain rfl := Option.some.inj h; exact ⟨rfl, (inRk rfl), rfl⟩)⟩
    · replace h := ifN h hq4
      exact nomatch h
def lb_FP_adOn_22 (a1 : Int) (a2 : Int) (c3 : Nat) (S : St) (go : Int × Int → Option ((Int) ⊕ (Unit))) (a4 : Int) (a5 : Int) : Option ((Int) ⊕ (Unit)) := if (g S c3 7) ≤ a5 then (some (.inr ())) else (if 0 ≤ a5 ∧ a5 < 40 then (if (g S (tgt c3 6) a5.toNat) = a1 then (if a4 = a2 then (some (.inl a5)) else (nm (wr (a4 + 1)) fun v4 => nm (wr (a5 + 1)) fun v5 => go (v4, v5))) else (nm (wr (a5 + 1)) fun v3 => go (a4, v3))) else none)
def lo_FP_adOn_22 (a1 : Int) (a2 : Int) (c3 : Nat) (S : St) : Nat → Int × Int → Option ((Int) ⊕ (Unit)) := lp fun go p => lb_FP_adOn_22 a1 a2 c3 S go p.1 p.2
theorem tl_FP_adOn_22 {E : EV} {X : XT} (hfl : X.2.2.2 = false) {a1 : Int} (ha1 : inR a1) {a2 : Int} (ha2 : inR a2) {c3 : Nat} (hc3 : HC X 0 c3) {S : St} {K : RK → PS → Prop} {q : (Int) ⊕ (Unit)} (hx : ∀ p, q = .inr p → Go E M_FP_adOn 1 6 60 [] [] (WX X S) 1 6 K) (hr : ∀ p, q = .inl p → inR p → K (.inl (some (V p))) (WX X S)) : ∀ n a, lo_FP_adOn_22 a1 a2 c3 S n a = some q → inR a.1 → inR a.2 → Go E M_FP_adOn 1 6 22 [(1, V a1), (2, V a2), (3, .ref c3), (4, V a.1), (5, V a.2)] [] (WX X S) 1 6 K := by
  refine lp_ind (P := fun a : Int × Int => inR a.1 → inR a.2 → Go E M_FP_adOn 1 6 22 [(1, V a1), (2, V a2), (3, .ref c3), (4, V a.1), (5, V a.2)] [] (WX X S) 1 6 K) (fun go ih a h => ?_)
  obtain ⟨a4, a5⟩ := a
  intro ha4 ha5
  show Go E M_FP_adOn 1 6 22 [(1, V a1), (2, V a2), (3, .ref c3), (4, V a4), (5, V a5)] [] (WX X S) 1 6 K
  replace h : lb_FP_adOn_22 a1 a2 c3 S go a4 a5 = some q := h
  unfold lb_FP_adOn_22 at h
  refine g_iload (pc := 22) (j := 4) (dK D_FP_adOn 12 rfl) rfl ?_
  refine g_aloadn (pc := 24) (i0 := 3) (j := 2) (dK D_FP_adOn 13 rfl) rfl rfl ?_
  refine vg_getI (pc := 25) (ci := 0) (f := 7) (dK D_FP_adOn 14 rfl) q_109 hc3 (ltK rfl) (ltK rfl) rfl ?_
  refine vg_icmp_ge (pc := 28) (t := 60) (dK D_FP_adOn 15 rfl) rfl ha5 (g_in _ _ _) (fun hc8 => ?_) (fun hc8 => ?_)
  · replace h := ifP h hc8
    refine gL_weak (ls' := []) sbn ?_
    exact hx _ (Option.some.inj h).symm 
  · replace h := ifN h hc8
    refine g_aloadn (pc := 31) (i0 := 3) (j := 2) (dK D_FP_adOn 16 rfl) rfl rfl ?_
    refine vg_getA (pc := 32) (ci := 0) (f := 6) (dK D_FP_adOn 17 rfl) q_103 hc3 (ltK rfl) (ltK rfl) rfl ?_
    refine g_iload (pc := 35) (j := 4) (dK D_FP_adOn 18 rfl) rfl ?_
    refine gdE h (fun hi2 h => ?_)
    refine vg_iaload (pc := 37) (j := a5.toNat) (dK D_FP_adOn 19 rfl) (hw_0_6 hc3) rfl hi2 rfl ?_
    refine g_iloadn (pc := 38) (i0 := 1) (j := 0) (dK D_FP_adOn 20 rfl) rfl rfl ?_
    refine vg_icmp_ne (pc := 39) (t := 54) (dK D_FP_adOn 21 rfl) rfl (g_in _ _ _) ha1 (fun hc7 => ?_) (fun hc7 => ?_)
    · replace h := ifN h hc7
      refine nmE h (fun v3 e_v3 h => ?_)
      refine vg_iinc (pc := 54) (j := 4) (a := a5) (z := 1) (ls2 := [(5, V v3), (1, V a1), (2, V a2), (3, .ref c3), (4, V a4)]) (dK D_FP_adOn 28 rfl) rfl e_v3 (ltK rfl) rfl ?_
      refine g_goto (pc := 57) (tgt := 22) (dK D_FP_adOn 29 rfl) rfl ?_
      refine gL_weak (ls' := [(1, V a1), (2, V a2), (3, .ref c3), (4, V a4), (5, V v3)]) (sbc 1 rfl (sbc 2 rfl (sbc 3 rfl (sbc 4 rfl (sbc 0 rfl sbn))))) ?_
      replace h := ih _ h
      exact h ha4 (Vn_in e_v3)
    · replace h := ifP h hc7
      refine g_iload (pc := 42) (j := 3) (dK D_FP_adOn 22 rfl) rfl ?_
      refine g_iloadn (pc := 44) (i0 := 2) (j := 1) (dK D_FP_adOn 23 rfl) rfl rfl ?_
      refine vg_icmp_ne (pc := 45) (t := 51) (dK D_FP_adOn 24 rfl) rfl ha4 ha2 (fun hc6 => ?_) (fun hc6 => ?_)
      · replace h := ifN h hc6
        refine nmE h (fun v4 e_v4 h => ?_)
        refine vg_iinc (pc := 51) (j := 3) (a := a4) (z := 1) (ls2 := [(4, V v4), (1, V a1), (2, V a2), (3, .ref c3), (5, V a5)]) (dK D_FP_adOn 27 rfl) rfl e_v4 (ltK rfl) rfl ?_
        refine nmE h (fun v5 e_v5 h => ?_)
        refine vg_iinc (pc := 54) (j := 4) (a := a5) (z := 1) (ls2 := [(5, V v5), (4, V v4), (1, V a1), (2, V a2), (3, .ref c3)]) (dK D_FP_adOn 28 rfl) rfl e_v5 (ltK rfl) rfl ?_
        refine g_goto (pc := 57) (tgt := 22) (dK D_FP_adOn 29 rfl) rfl ?_
        refine gL_weak (ls' := [(1, V a1), (2, V a2), (3, .ref c3), (4, V v4), (5, V v5)]) (sbc 2 rfl (sbc 3 rfl (sbc 4 rfl (sbc 1 rfl (sbc 0 rfl sbn))))) ?_
        replace h := ih _ h
        exact h (Vn_in e_v4) (Vn_in e_v5)
      · replace h := ifP h hc6
        refine g_iload (pc := 48) (j := 4) (dK D_FP_adOn 25 rfl) rfl ?_
        exact vg_iretI (pc := 50) (r := a5) (dK D_FP_adOn 26 rfl) rfl (leK rfl) (leK rfl) (xf hfl) (hr _ (Option.some.inj h).symm ha5)
def fn_FP_adOn (c0 : Nat) (a1 : Int) (a2 : Int) (S : St) : Option (Nat × Int) := bnO (fn_FP_needPage c0 a1 S) fun p1 => if p1 = 0 then (bnS (lo_FP_adOn_22 a1 a2 (tgt (tgt (tgt c0 3) 0) 0) S FU (0, 0)) (fun p10 => some (0, p10)) fun p9 => some (0, (-1))) else (some (p1, 0))
theorem tf_FP_adOn {E : EV} {X : XT} (hfl : X.2.2.2 = false) {c0 : Nat} (hc0 : HC X 10 c0) {a1 : Int} (ha1 : inR a1) {a2 : Int} (ha2 : inR a2) {S : St} {q : Nat × Int} (h : fn_FP_adOn c0 a1 a2 S = some q) : Ev E M_FP_adOn [.ref c0, V a1, V a2] (WX X S) 1 6 (KT X q.1 S (KI X q.2 S)) := by
  refine Ev.of pn_FP rfl (leK rfl) ?_
  show Go E M_FP_adOn 1 6 0 [(0, .ref c0), (1, V a1), (2, V a2)] [] (WX X S) 0 0 (KT X q.1 S (KI X q.2 S))
  unfold fn_FP_adOn at h
  refine g_aloadn (pc := 0) (i0 := 0) (j := 0) (dK D_FP_adOn 0 rfl) rfl rfl ?_
  refine g_iloadn (pc := 1) (i0 := 1) (j := 1) (dK D_FP_adOn 1 rfl) rfl rfl ?_
  refine bnE h (fun p1 e_p1 h => ?_)
  refine vg_cV (pc := 2) (As := [V a1]) (rest := []) (mc' := 1) (ms' := 6) (dK D_FP_adOn 2 rfl) K_FP_204 (fitK rfl) (ltK rfl) hc0 rfl (leK rfl) (leK rfl) (leK rfl) (tf_FP_needPage hfl hc0 ha1 e_p1) (kcT hfl (fun he11 => kcU ?_) (fun he11 => ⟨rfl, ?_⟩))
  · replace h := ifP h he11
    refine g_aloadn (pc := 5) (i0 := 0) (j := 0) (dK D_FP_adOn 3 rfl) rfl rfl ?_
    refine vg_getO (pc := 6) (ci := 10) (f := 3) (dK D_FP_adOn 4 rfl) q_425 hc0 (ltK rfl) (ltK rfl) rfl ?_
    refine vg_getO (pc := 9) (ci := 4) (f := 0) (dK D_FP_adOn 5 rfl) q_292 (hw_10_3 hc0) (ltK rfl) (ltK rfl) rfl ?_
    refine vg_getO (pc := 12) (ci := 8) (f := 0) (dK D_FP_adOn 6 rfl) q_224 (hw_4_0 (hw_10_3 hc0)) (ltK rfl) (ltK rfl) rfl ?_
    refine g_astoren (pc := 15) (i0 := 3) (ls2 := [(3, .ref (tgt (tgt (tgt c0 3) 0) 0)), (0, .ref c0), (1, V a1), (2, V a2)]) (dK D_FP_adOn 7 rfl) rfl (ltK rfl) rfl ?_
    refine vg_iconst (pc := 16) (dK D_FP_adOn 8 rfl) ?_
    refine g_istore (pc := 17) (ls2 := [(4, V 0), (3, .ref (tgt (tgt (tgt c0 3) 0) 0)), (0, .ref c0), (1, V a1), (2, V a2)]) (dK D_FP_adOn 9 rfl) (ltK rfl) rfl ?_
    refine vg_iconst (pc := 19) (dK D_FP_adOn 10 rfl) ?_
    refine g_istore (pc := 20) (ls2 := [(5, V 0), (4, V 0), (3, .ref (tgt (tgt (tgt c0 3) 0) 0)), (0, .ref c0), (1, V a1), (2, V a2)]) (dK D_FP_adOn 11 rfl) (ltK rfl) rfl ?_
    refine bnSE h (fun p10 e_p10 h => ?_) (fun p9 e_p9 h => ?_)
    · refine gL_weak (ls' := [(1, V a1), (2, V a2), (3, .ref (tgt (tgt (tgt c0 3) 0) 0)), (4, V 0), (5, V 0)]) (sbc 4 rfl (sbc 5 rfl (sbc 2 rfl (sbc 1 rfl (sbc 0 rfl sbn))))) ?_
      refine tl_FP_adOn_22 hfl ha1 ha2 (hw_8_0 (hw_4_0 (hw_10_3 hc0))) (fun _ e => slr e) (fun p e hr_p10 => ?_) FU (0, 0) e_p10 (inRk rfl) (inRk rfl)
      have e := Sum.inl.inj e
      subst e
      exact (by obtain rfl := Option.some.inj h; exact KT_ok ⟨rfl, hr_p10, rfl⟩)
    · refine gL_weak (ls' := [(1, V a1), (2, V a2), (3, .ref (tgt (tgt (tgt c0 3) 0) 0)), (4, V 0), (5, V 0)]) (sbc 4 rfl (sbc 5 rfl (sbc 2 rfl (sbc 1 rfl (sbc 0 rfl sbn))))) ?_
      refine tl_FP_adOn_22 hfl ha1 ha2 (hw_8_0 (hw_4_0 (hw_10_3 hc0))) (fun p e => ?_) (fun _ e => srl e) FU (0, 0) e_p9 (inRk rfl) (inRk rfl)
      have e := Sum.inr.inj e
      subst e
      refine vg_iconst (pc := 60) (dK D_FP_adOn 30 rfl) ?_
      exact vg_iretI (pc := 61) (r := (-1)) (dK D_FP_adOn 31 rfl) rfl (leK rfl) (leK rfl) (xf hfl) (by obtain rfl := Option.some.inj h; exact KT_ok ⟨rfl, (inRk rfl), rfl⟩)
  · replace h := ifN h he11
    obtain rfl := Option.some.inj h
    exact KT_thr he11
def fn_Law_adOn (c0 : Nat) (a1 : Int) (a2 : Int) (c3 : Nat) (S : St) : Option (Int × St) := bnO (fn_FP_adOn c0 a1 a2 S) fun p1 => if p1.1 = 0 then (nm (ul S c3 0 p1.2) fun S2 => some (0, S2)) else (if p1.1 = 1 then (some (1, S)) else none)
theorem tf_Law_adOn {E : EV} {X : XT} (hfl : X.2.2.2 = false) {c0 : Nat} (hc0 : HC X 10 c0) {a1 : Int} (ha1 : inR a1) {a2 : Int} (ha2 : inR a2) {c3 : Nat} (hc3 : HA X 3 1 c3) {S : St} {q : Int × St} (h : fn_Law_adOn c0 a1 a2 c3 S = some q) : EvH E M_Law_adOn [.ref c0, V a1, V a2, .ref c3] (WX X S) 1 6 (KI X q.1 q.2) := by
  refine EvH.of pn_Law (leK rfl) ?_
  show Go E M_Law_adOn 1 6 0 [(0, .ref c0), (1, V a1), (2, V a2), (3, .ref c3)] [] (WX X S) 0 0 (KI X q.1 q.2)
  unfold fn_Law_adOn at h
  refine g_aloadn (pc := 0) (i0 := 3) (j := 3) (dK D_Law_adOn 0 rfl) rfl rfl ?_
  refine vg_iconst (pc := 1) (dK D_Law_adOn 1 rfl) ?_
  refine g_aloadn (pc := 2) (i0 := 0) (j := 0) (dK D_Law_adOn 2 rfl) rfl rfl ?_
  refine g_iloadn (pc := 3) (i0 := 1) (j := 1) (dK D_Law_adOn 3 rfl) rfl rfl ?_
  refine g_iloadn (pc := 4) (i0 := 2) (j := 2) (dK D_Law_adOn 4 rfl) rfl rfl ?_
  refine bnE h (fun p1 e_p1 h => ?_)
  refine vg_cVX hfl (pc := 5) (As := [V a1, V a2]) (rest := [V 0, .ref c3]) (mc' := 1) (ms' := 6) (dK D_Law_adOn 5 rfl) K_Law_37 (fitK rfl) (ltK rfl) hc0 rfl (leK rfl) (leK rfl) (leK rfl) (tf_FP_adOn hfl hc0 ha1 ha2 e_p1) (kxT hfl (fun he3 => kxI hfl (fun h_p1 => ?_)) (fun he3 => ?_))
  · replace h := ifP h he3
    refine vg_i2l (pc := 8) (dK D_Law_adOn 6 rfl) h_p1 ?_
    refine nmE h (fun S2 e_S2 h => ?_)
    refine vg_lastore (pc := 9) (z := p1.2) (dK D_Law_adOn 7 rfl) hc3 rfl ⟨by decide, by decide⟩ rfl e_S2 ?_
    refine g_goto (pc := 10) (tgt := 17) (dK D_Law_adOn 8 rfl) rfl ?_
    refine vg_iconst (pc := 17) (dK D_Law_adOn 12 rfl) ?_
    exact vg_iretI (pc := 18) (r := 0) (dK D_Law_adOn 13 rfl) rfl (leK rfl) (leK rfl) (xf hfl) (by obtain rfl := Option.some.inj h; exact ⟨rfl, (inRk rfl), rfl⟩)
  · replace h := ifN h he3
    by_cases hq4 : p1.1 = 1
    · have h := ifP h hq4
      rw [hq4]
      exact ⟨_, CT_Law_adOn_5_1, (by obtain rfl := Option.some.inj h; exact ⟨rfl, (inRk rfl), rfl⟩)⟩
    · replace h := ifN h hq4
      exact nomatch h
def fn_FP_needForm (c0 : Nat) (a1 : Int) (S : St) : Option (Nat) := if a1 < 0 then (some 1) else (if a1 < (g S (tgt c0 3) 2) then (some 0) else (some 1))
theorem tf_FP_needForm {E : EV} {X : XT} (hfl : X.2.2.2 = false) {c0 : Nat} (hc0 : HC X 10 c0) {a1 : Int} (ha1 : inR a1) {S : St} {q : Nat} (h : fn_FP_needForm c0 a1 S = some q) : Ev E M_FP_needForm [.ref c0, V a1] (WX X S) 1 6 (KT X q S (KU X S)) := by
  refine Ev.of pn_FP rfl (leK rfl) ?_
  show Go E M_FP_needForm 1 6 0 [(0, .ref c0), (1, V a1)] [] (WX X S) 0 0 (KT X q S (KU X S))
  unfold fn_FP_needForm at h
  refine g_iloadn (pc := 0) (i0 := 1) (j := 1) (dK D_FP_needForm 0 rfl) rfl rfl ?_
  refine vg_if_lt (pc := 1) (t := 15) (dK D_FP_needForm 1 rfl) rfl ha1 (fun hc2 => ?_) (fun hc2 => ?_)
  · replace h := ifP h hc2
    exact vg_throwW hfl (pc := 15) TH_FP_363_377 (dK D_FP_needForm 7 rfl) (dK D_FP_needForm 8 rfl) (dK D_FP_needForm 9 rfl) (dK D_FP_needForm 10 rfl) (dK D_FP_needForm 11 rfl) rfl (leK rfl) (leK rfl) (leK rfl) (leK rfl) (leK rfl) (by obtain rfl := Option.some.inj h; exact KT_thr (e := 1) (by decide))
  · replace h := ifN h hc2
    refine g_iloadn (pc := 4) (i0 := 1) (j := 1) (dK D_FP_needForm 2 rfl) rfl rfl ?_
    refine g_aloadn (pc := 5) (i0 := 0) (j := 0) (dK D_FP_needForm 3 rfl) rfl rfl ?_
    refine vg_getO (pc := 6) (ci := 10) (f := 3) (dK D_FP_needForm 4 rfl) q_425 hc0 (ltK rfl) (ltK rfl) rfl ?_
    refine vg_getI (pc := 9) (ci := 4) (f := 2) (dK D_FP_needForm 5 rfl) q_300 (hw_10_3 hc0) (ltK rfl) (ltK rfl) rfl ?_
    refine vg_icmp_lt (pc := 12) (t := 26) (dK D_FP_needForm 6 rfl) rfl ha1 (g_in _ _ _) (fun hc1 => ?_) (fun hc1 => ?_)
    · replace h := ifP h hc1
      exact g_return (pc := 26) (dK D_FP_needForm 12 rfl) rfl (leK rfl) (leK rfl) (xf hfl) (by obtain rfl := Option.some.inj h; exact KT_ok ⟨rfl, rfl⟩)
    · replace h := ifN h hc1
      exact vg_throwW hfl (pc := 15) TH_FP_363_377 (dK D_FP_needForm 7 rfl) (dK D_FP_needForm 8 rfl) (dK D_FP_needForm 9 rfl) (dK D_FP_needForm 10 rfl) (dK D_FP_needForm 11 rfl) rfl (leK rfl) (leK rfl) (leK rfl) (leK rfl) (leK rfl) (by obtain rfl := Option.some.inj h; exact KT_thr (e := 1) (by decide))
def lb_Plan_leftOnForm_4 (c0 : Nat) (a1 : Int) (S : St) (go : Int × Int → Option (Int)) (a2 : Int) (a3 : Int) : Option (Int) := if (g S c0 1) < a3 then (some a2) else (if 0 ≤ a3 ∧ a3 < 65 then (if (g S (tgt c0 3) a3.toNat) = a1 then (nm (wr (a2 + (g S (tgt c0 5) a3.toNat))) fun v3 => nm (wr (a3 + 1)) fun v4 => go (v3, v4)) else (nm (wr (a3 + 1)) fun v2 => go (a2, v2))) else none)
def lo_Plan_leftOnForm_4 (c0 : Nat) (a1 : Int) (S : St) : Nat → Int × Int → Option (Int) := lp fun go p => lb_Plan_leftOnForm_4 c0 a1 S go p.1 p.2
theorem tl_Plan_leftOnForm_4 {E : EV} {X : XT} {c0 : Nat} (hc0 : HC X 4 c0) {a1 : Int} (ha1 : inR a1) {S : St} {K : RK → PS → Prop} {q : Int} (hx : inR q → Go E M_Plan_leftOnForm 0 0 37 [(2, V q)] [] (WX X S) 0 0 K) : ∀ n a, lo_Plan_leftOnForm_4 c0 a1 S n a = some q → inR a.1 → inR a.2 → Go E M_Plan_leftOnForm 0 0 4 [(0, .ref c0), (1, V a1), (2, V a.1), (3, V a.2)] [] (WX X S) 0 0 K := by
  refine lp_ind (P := fun a : Int × Int => inR a.1 → inR a.2 → Go E M_Plan_leftOnForm 0 0 4 [(0, .ref c0), (1, V a1), (2, V a.1), (3, V a.2)] [] (WX X S) 0 0 K) (fun go ih a h => ?_)
  obtain ⟨a2, a3⟩ := a
  intro ha2 ha3
  show Go E M_Plan_leftOnForm 0 0 4 [(0, .ref c0), (1, V a1), (2, V a2), (3, V a3)] [] (WX X S) 0 0 K
  replace h : lb_Plan_leftOnForm_4 c0 a1 S go a2 a3 = some q := h
  unfold lb_Plan_leftOnForm_4 at h
  refine g_iloadn (pc := 4) (i0 := 3) (j := 3) (dK D_Plan_leftOnForm 4 rfl) rfl rfl ?_
  refine g_aloadn (pc := 5) (i0 := 0) (j := 0) (dK D_Plan_leftOnForm 5 rfl) rfl rfl ?_
  refine vg_getI (pc := 6) (ci := 4) (f := 1) (dK D_Plan_leftOnForm 6 rfl) q_294 hc0 (ltK rfl) (ltK rfl) rfl ?_
  refine vg_icmp_gt (pc := 9) (t := 37) (dK D_Plan_leftOnForm 7 rfl) rfl ha3 (g_in _ _ _) (fun hc6 => ?_) (fun hc6 => ?_)
  · replace h := ifP h hc6
    obtain rfl := Option.some.inj h
    refine gL_weak (ls' := [(2, V a2)]) (sbc 2 rfl sbn) ?_
    exact hx ha2
  · replace h := ifN h hc6
    refine g_aloadn (pc := 12) (i0 := 0) (j := 0) (dK D_Plan_leftOnForm 8 rfl) rfl rfl ?_
    refine vg_getA (pc := 13) (ci := 4) (f := 3) (dK D_Plan_leftOnForm 9 rfl) q_302 hc0 (ltK rfl) (ltK rfl) rfl ?_
    refine g_iloadn (pc := 16) (i0 := 3) (j := 3) (dK D_Plan_leftOnForm 10 rfl) rfl rfl ?_
    refine gdE h (fun hi1 h => ?_)
    refine vg_iaload (pc := 17) (j := a3.toNat) (dK D_Plan_leftOnForm 11 rfl) (hw_4_3 hc0) rfl hi1 rfl ?_
    refine g_iloadn (pc := 18) (i0 := 1) (j := 1) (dK D_Plan_leftOnForm 12 rfl) rfl rfl ?_
    refine vg_icmp_ne (pc := 19) (t := 31) (dK D_Plan_leftOnForm 13 rfl) rfl (g_in _ _ _) ha1 (fun hc5 => ?_) (fun hc5 => ?_)
    · replace h := ifN h hc5
      refine nmE h (fun v2 e_v2 h => ?_)
      refine vg_iinc (pc := 31) (j := 3) (a := a3) (z := 1) (ls2 := [(3, V v2), (0, .ref c0), (1, V a1), (2, V a2)]) (dK D_Plan_leftOnForm 21 rfl) rfl e_v2 (ltK rfl) rfl ?_
      refine g_goto (pc := 34) (tgt := 4) (dK D_Plan_leftOnForm 22 rfl) rfl ?_
      refine gL_weak (ls' := [(0, .ref c0), (1, V a1), (2, V a2), (3, V v2)]) (sbc 1 rfl (sbc 2 rfl (sbc 3 rfl (sbc 0 rfl sbn)))) ?_
      replace h := ih _ h
      exact h ha2 (Vn_in e_v2)
    · replace h := ifP h hc5
      refine g_iloadn (pc := 22) (i0 := 2) (j := 2) (dK D_Plan_leftOnForm 14 rfl) rfl rfl ?_
      refine g_aloadn (pc := 23) (i0 := 0) (j := 0) (dK D_Plan_leftOnForm 15 rfl) rfl rfl ?_
      refine vg_getA (pc := 24) (ci := 4) (f := 5) (dK D_Plan_leftOnForm 16 rfl) q_307 hc0 (ltK rfl) (ltK rfl) rfl ?_
      refine g_iloadn (pc := 27) (i0 := 3) (j := 3) (dK D_Plan_leftOnForm 17 rfl) rfl rfl ?_
      refine vg_iaload (pc := 28) (j := a3.toNat) (dK D_Plan_leftOnForm 18 rfl) (hw_4_5 hc0) rfl hi1 rfl ?_
      refine vg_iadd (pc := 29) (dK D_Plan_leftOnForm 19 rfl) ?_
      refine nmE h (fun v3 e_v3 h => ?_)
      refine gtop e_v3 ?_
      refine g_istoren (pc := 30) (i0 := 2) (ls2 := [(2, V v3), (0, .ref c0), (1, V a1), (3, V a3)]) (dK D_Plan_leftOnForm 20 rfl) rfl (ltK rfl) rfl ?_
      refine nmE h (fun v4 e_v4 h => ?_)
      refine vg_iinc (pc := 31) (j := 3) (a := a3) (z := 1) (ls2 := [(3, V v4), (2, V v3), (0, .ref c0), (1, V a1)]) (dK D_Plan_leftOnForm 21 rfl) rfl e_v4 (ltK rfl) rfl ?_
      refine g_goto (pc := 34) (tgt := 4) (dK D_Plan_leftOnForm 22 rfl) rfl ?_
      refine gL_weak (ls' := [(0, .ref c0), (1, V a1), (2, V v3), (3, V v4)]) (sbc 2 rfl (sbc 3 rfl (sbc 1 rfl (sbc 0 rfl sbn)))) ?_
      replace h := ih _ h
      exact h (Vn_in e_v3) (Vn_in e_v4)
def fn_Plan_leftOnForm (c0 : Nat) (a1 : Int) (S : St) : Option (Int) := bnO (lo_Plan_leftOnForm_4 c0 a1 S FU (0, 1)) fun p7 => some p7
theorem tf_Plan_leftOnForm {E : EV} {X : XT} {c0 : Nat} (hc0 : HC X 4 c0) {a1 : Int} (ha1 : inR a1) {S : St} {q : Int} (h : fn_Plan_leftOnForm c0 a1 S = some q) : Ev E M_Plan_leftOnForm [.ref c0, V a1] (WX X S) 0 0 (KI X q S) := by
  refine Ev.of pn_Plan rfl (leK rfl) ?_
  show Go E M_Plan_leftOnForm 0 0 0 [(0, .ref c0), (1, V a1)] [] (WX X S) 0 0 (KI X q S)
  unfold fn_Plan_leftOnForm at h
  refine vg_iconst (pc := 0) (dK D_Plan_leftOnForm 0 rfl) ?_
  refine g_istoren (pc := 1) (i0 := 2) (ls2 := [(2, V 0), (0, .ref c0), (1, V a1)]) (dK D_Plan_leftOnForm 1 rfl) rfl (ltK rfl) rfl ?_
  refine vg_iconst (pc := 2) (dK D_Plan_leftOnForm 2 rfl) ?_
  refine g_istoren (pc := 3) (i0 := 3) (ls2 := [(3, V 1), (2, V 0), (0, .ref c0), (1, V a1)]) (dK D_Plan_leftOnForm 3 rfl) rfl (ltK rfl) rfl ?_
  refine bnE h (fun p7 e_p7 h => ?_)
  refine gL_weak (ls' := [(0, .ref c0), (1, V a1), (2, V 0), (3, V 1)]) (sbc 2 rfl (sbc 3 rfl (sbc 1 rfl (sbc 0 rfl sbn)))) ?_
  refine tl_Plan_leftOnForm_4 hc0 ha1 (fun hx2_p7 => ?_) FU (0, 1) e_p7 (inRk rfl) (inRk rfl)
  refine g_iloadn (pc := 37) (i0 := 2) (j := 0) (dK D_Plan_leftOnForm 23 rfl) rfl rfl ?_
  exact vg_iretI (pc := 38) (r := p7) (dK D_Plan_leftOnForm 24 rfl) rfl (leK rfl) (leK rfl) (fun _ => rfl) (by obtain rfl := Option.some.inj h; exact ⟨rfl, hx2_p7, rfl⟩)
def lb_Plan_adsOnForm_4 (c0 : Nat) (a1 : Int) (S : St) (go : Int × Int → Option (Int)) (a2 : Int) (a3 : Int) : Option (Int) := if (g S (tgt (tgt c0 0) 0) 7) ≤ a3 then (some a2) else (if 0 ≤ a3 ∧ a3 < 40 then (bnO (fn_Plan_formAt c0 (g S (tgt (tgt (tgt c0 0) 0) 6) a3.toNat) S) fun p2 => if p2 = a1 then (nm (wr (a2 + 1)) fun v4 => nm (wr (a3 + 1)) fun v5 => go (v4, v5)) else (nm (wr (a3 + 1)) fun v3 => go (a2, v3))) else none)
def lo_Plan_adsOnForm_4 (c0 : Nat) (a1 : Int) (S : St) : Nat → Int × Int → Option (Int) := lp fun go p => lb_Plan_adsOnForm_4 c0 a1 S go p.1 p.2
theorem tl_Plan_adsOnForm_4 {E : EV} {X : XT} {c0 : Nat} (hc0 : HC X 4 c0) {a1 : Int} (ha1 : inR a1) {S : St} {K : RK → PS → Prop} {q : Int} (hx : inR q → Go E M_Plan_adsOnForm 0 0 47 [(2, V q)] [] (WX X S) 0 0 K) : ∀ n a, lo_Plan_adsOnForm_4 c0 a1 S n a = some q → inR a.1 → inR a.2 → Go E M_Plan_adsOnForm 0 0 4 [(0, .ref c0), (1, V a1), (2, V a.1), (3, V a.2)] [] (WX X S) 0 0 K := by
  refine lp_ind (P := fun a : Int × Int => inR a.1 → inR a.2 → Go E M_Plan_adsOnForm 0 0 4 [(0, .ref c0), (1, V a1), (2, V a.1), (3, V a.2)] [] (WX X S) 0 0 K) (fun go ih a h => ?_)
  obtain ⟨a2, a3⟩ := a
  intro ha2 ha3
  show Go E M_Plan_adsOnForm 0 0 4 [(0, .ref c0), (1, V a1), (2, V a2), (3, V a3)] [] (WX X S) 0 0 K
  replace h : lb_Plan_adsOnForm_4 c0 a1 S go a2 a3 = some q := h
  unfold lb_Plan_adsOnForm_4 at h
  refine g_iloadn (pc := 4) (i0 := 3) (j := 3) (dK D_Plan_adsOnForm 4 rfl) rfl rfl ?_
  refine g_aloadn (pc := 5) (i0 := 0) (j := 0) (dK D_Plan_adsOnForm 5 rfl) rfl rfl ?_
  refine vg_getO (pc := 6) (ci := 4) (f := 0) (dK D_Plan_adsOnForm 6 rfl) q_290 hc0 (ltK rfl) (ltK rfl) rfl ?_
  refine vg_getO (pc := 9) (ci := 8) (f := 0) (dK D_Plan_adsOnForm 7 rfl) q_222 (hw_4_0 hc0) (ltK rfl) (ltK rfl) rfl ?_
  refine vg_getI (pc := 12) (ci := 0) (f := 7) (dK D_Plan_adsOnForm 8 rfl) q_107 (hw_8_0 (hw_4_0 hc0)) (ltK rfl) (ltK rfl) rfl ?_
  refine vg_icmp_ge (pc := 15) (t := 47) (dK D_Plan_adsOnForm 9 rfl) rfl ha3 (g_in _ _ _) (fun hc7 => ?_) (fun hc7 => ?_)
  · replace h := ifP h hc7
    obtain rfl := Option.some.inj h
    refine gL_weak (ls' := [(2, V a2)]) (sbc 2 rfl sbn) ?_
    exact hx ha2
  · replace h := ifN h hc7
    refine g_aloadn (pc := 18) (i0 := 0) (j := 0) (dK D_Plan_adsOnForm 10 rfl) rfl rfl ?_
    refine g_aloadn (pc := 19) (i0 := 0) (j := 0) (dK D_Plan_adsOnForm 11 rfl) rfl rfl ?_
    refine vg_getO (pc := 20) (ci := 4) (f := 0) (dK D_Plan_adsOnForm 12 rfl) q_290 hc0 (ltK rfl) (ltK rfl) rfl ?_
    refine vg_getO (pc := 23) (ci := 8) (f := 0) (dK D_Plan_adsOnForm 13 rfl) q_222 (hw_4_0 hc0) (ltK rfl) (ltK rfl) rfl ?_
    refine vg_getA (pc := 26) (ci := 0) (f := 6) (dK D_Plan_adsOnForm 14 rfl) q_102 (hw_8_0 (hw_4_0 hc0)) (ltK rfl) (ltK rfl) rfl ?_
    refine g_iloadn (pc := 29) (i0 := 3) (j := 3) (dK D_Plan_adsOnForm 15 rfl) rfl rfl ?_
    refine gdE h (fun hi1 h => ?_)
    refine vg_iaload (pc := 30) (j := a3.toNat) (dK D_Plan_adsOnForm 16 rfl) (hw_0_6 (hw_8_0 (hw_4_0 hc0))) rfl hi1 rfl ?_
    refine bnE h (fun p2 e_p2 h => ?_)
    refine vg_cV (pc := 31) (As := [V (g S (tgt (tgt (tgt c0 0) 0) 6) a3.toNat)]) (rest := []) (mc' := 0) (ms' := 0) (dK D_Plan_adsOnForm 17 rfl) K_Plan_173 (fitK rfl) (ltK rfl) hc0 rfl (leK rfl) (leK rfl) (leK rfl) (tf_Plan_formAt hc0 (g_in _ _ _) e_p2) (kcI (fun h_p2 => ?_))
    refine g_iloadn (pc := 34) (i0 := 1) (j := 1) (dK D_Plan_adsOnForm 18 rfl) rfl rfl ?_
    refine vg_icmp_ne (pc := 35) (t := 41) (dK D_Plan_adsOnForm 19 rfl) rfl h_p2 ha1 (fun hc6 => ?_) (fun hc6 => ?_)
    · replace h := ifN h hc6
      refine nmE h (fun v3 e_v3 h => ?_)
      refine vg_iinc (pc := 41) (j := 3) (a := a3) (z := 1) (ls2 := [(3, V v3), (0, .ref c0), (1, V a1), (2, V a2)]) (dK D_Plan_adsOnForm 21 rfl) rfl e_v3 (ltK rfl) rfl ?_
      refine g_goto (pc := 44) (tgt := 4) (dK D_Plan_adsOnForm 22 rfl) rfl ?_
      refine gL_weak (ls' := [(0, .ref c0), (1, V a1), (2, V a2), (3, V v3)]) (sbc 1 rfl (sbc 2 rfl (sbc 3 rfl (sbc 0 rfl sbn)))) ?_
      replace h := ih _ h
      exact h ha2 (Vn_in e_v3)
    · replace h := ifP h hc6
      refine nmE h (fun v4 e_v4 h => ?_)
      refine vg_iinc (pc := 38) (j := 2) (a := a2) (z := 1) (ls2 := [(2, V v4), (0, .ref c0), (1, V a1), (3, V a3)]) (dK D_Plan_adsOnForm 20 rfl) rfl e_v4 (ltK rfl) rfl ?_
      refine nmE h (fun v5 e_v5 h => ?_)
      refine vg_iinc (pc := 41) (j := 3) (a := a3) (z := 1) (ls2 := [(3, V v5), (2, V v4), (0, .ref c0), (1, V a1)]) (dK D_Plan_adsOnForm 21 rfl) rfl e_v5 (ltK rfl) rfl ?_
      refine g_goto (pc := 44) (tgt := 4) (dK D_Plan_adsOnForm 22 rfl) rfl ?_
      refine gL_weak (ls' := [(0, .ref c0), (1, V a1), (2, V v4), (3, V v5)]) (sbc 2 rfl (sbc 3 rfl (sbc 1 rfl (sbc 0 rfl sbn)))) ?_
      replace h := ih _ h
      exact h (Vn_in e_v4) (Vn_in e_v5)
def fn_Plan_adsOnForm (c0 : Nat) (a1 : Int) (S : St) : Option (Int) := bnO (lo_Plan_adsOnForm_4 c0 a1 S FU (0, 0)) fun p8 => some p8
theorem tf_Plan_adsOnForm {E : EV} {X : XT} {c0 : Nat} (hc0 : HC X 4 c0) {a1 : Int} (ha1 : inR a1) {S : St} {q : Int} (h : fn_Plan_adsOnForm c0 a1 S = some q) : Ev E M_Plan_adsOnForm [.ref c0, V a1] (WX X S) 0 0 (KI X q S) := by
  refine Ev.of pn_Plan rfl (leK rfl) ?_
  show Go E M_Plan_adsOnForm 0 0 0 [(0, .ref c0), (1, V a1)] [] (WX X S) 0 0 (KI X q S)
  unfold fn_Plan_adsOnForm at h
  refine vg_iconst (pc := 0) (dK D_Plan_adsOnForm 0 rfl) ?_
  refine g_istoren (pc := 1) (i0 := 2) (ls2 := [(2, V 0), (0, .ref c0), (1, V a1)]) (dK D_Plan_adsOnForm 1 rfl) rfl (ltK rfl) rfl ?_
  refine vg_iconst (pc := 2) (dK D_Plan_adsOnForm 2 rfl) ?_
  refine g_istoren (pc := 3) (i0 := 3) (ls2 := [(3, V 0), (2, V 0), (0, .ref c0), (1, V a1)]) (dK D_Plan_adsOnForm 3 rfl) rfl (ltK rfl) rfl ?_
  refine bnE h (fun p8 e_p8 h => ?_)
  refine gL_weak (ls' := [(0, .ref c0), (1, V a1), (2, V 0), (3, V 0)]) (sbc 2 rfl (sbc 3 rfl (sbc 1 rfl (sbc 0 rfl sbn)))) ?_
  refine tl_Plan_adsOnForm_4 hc0 ha1 (fun hx2_p8 => ?_) FU (0, 0) e_p8 (inRk rfl) (inRk rfl)
  refine g_iloadn (pc := 47) (i0 := 2) (j := 0) (dK D_Plan_adsOnForm 23 rfl) rfl rfl ?_
  exact vg_iretI (pc := 48) (r := p8) (dK D_Plan_adsOnForm 24 rfl) rfl (leK rfl) (leK rfl) (fun _ => rfl) (by obtain rfl := Option.some.inj h; exact ⟨rfl, hx2_p8, rfl⟩)
def lb_Plan_lateOnForm_4 (c0 : Nat) (a1 : Int) (S : St) (go : Int × Int → Option (Int)) (a2 : Int) (a3 : Int) : Option (Int) := if (g S (tgt (tgt c0 0) 0) 7) ≤ a3 then (some a2) else (if 0 ≤ a3 ∧ a3 < 40 then (bnO (fn_Plan_formAt c0 (g S (tgt (tgt (tgt c0 0) 0) 6) a3.toNat) S) fun p2 => if p2 = a1 then (bnO (fn_Plan_isLate c0 (g S (tgt (tgt (tgt c0 0) 0) 5) a3.toNat) S) fun p4 => if p4 = true then (nm (wr (a2 + 1)) fun v7 => nm (wr (a3 + 1)) fun v8 => go (v7, v8)) else (nm (wr (a3 + 1)) fun v6 => go (a2, v6))) else (nm (wr (a3 + 1)) fun v3 => go (a2, v3))) else none)
def lo_Plan_lateOnForm_4 (c0 : Nat) (a1 : Int) (S : St) : Nat → Int × Int → Option (Int) := lp fun go p => lb_Plan_lateOnForm_4 c0 a1 S go p.1 p.2
theorem tl_Plan_lateOnForm_4 {E : EV} {X : XT} {c0 : Nat} (hc0 : HC X 4 c0) {a1 : Int} (ha1 : inR a1) {S : St} {K : RK → PS → Prop} {q : Int} (hx : inR q → Go E M_Plan_lateOnForm 0 0 66 [(0, .ref c0), (1, V a1), (2, V q)] [] (WX X S) 0 0 K) : ∀ n a, lo_Plan_lateOnForm_4 c0 a1 S n a = some q → inR a.1 → inR a.2 → Go E M_Plan_lateOnForm 0 0 4 [(0, .ref c0), (1, V a1), (2, V a.1), (3, V a.2)] [] (WX X S) 0 0 K := by
  refine lp_ind (P := fun a : Int × Int => inR a.1 → inR a.2 → Go E M_Plan_lateOnForm 0 0 4 [(0, .ref c0), (1, V a1), (2, V a.1), (3, V a.2)] [] (WX X S) 0 0 K) (fun go ih a h => ?_)
  obtain ⟨a2, a3⟩ := a
  intro ha2 ha3
  show Go E M_Plan_lateOnForm 0 0 4 [(0, .ref c0), (1, V a1), (2, V a2), (3, V a3)] [] (WX X S) 0 0 K
  replace h : lb_Plan_lateOnForm_4 c0 a1 S go a2 a3 = some q := h
  unfold lb_Plan_lateOnForm_4 at h
  refine g_iloadn (pc := 4) (i0 := 3) (j := 3) (dK D_Plan_lateOnForm_0 4 rfl) rfl rfl ?_
  refine g_aloadn (pc := 5) (i0 := 0) (j := 0) (dK D_Plan_lateOnForm_0 5 rfl) rfl rfl ?_
  refine vg_getO (pc := 6) (ci := 4) (f := 0) (dK D_Plan_lateOnForm_0 6 rfl) q_290 hc0 (ltK rfl) (ltK rfl) rfl ?_
  refine vg_getO (pc := 9) (ci := 8) (f := 0) (dK D_Plan_lateOnForm_0 7 rfl) q_222 (hw_4_0 hc0) (ltK rfl) (ltK rfl) rfl ?_
  refine vg_getI (pc := 12) (ci := 0) (f := 7) (dK D_Plan_lateOnForm_0 8 rfl) q_107 (hw_8_0 (hw_4_0 hc0)) (ltK rfl) (ltK rfl) rfl ?_
  refine vg_icmp_ge (pc := 15) (t := 66) (dK D_Plan_lateOnForm_0 9 rfl) rfl ha3 (g_in _ _ _) (fun hc10 => ?_) (fun hc10 => ?_)
  · replace h := ifP h hc10
    obtain rfl := Option.some.inj h
    refine gL_weak (ls' := [(0, .ref c0), (1, V a1), (2, V a2)]) (sbc 0 rfl (sbc 1 rfl (sbc 2 rfl sbn))) ?_
    exact hx ha2
  · replace h := ifN h hc10
    refine g_aloadn (pc := 18) (i0 := 0) (j := 0) (dK D_Plan_lateOnForm_0 10 rfl) rfl rfl ?_
    refine g_aloadn (pc := 19) (i0 := 0) (j := 0) (dK D_Plan_lateOnForm_0 11 rfl) rfl rfl ?_
    refine vg_getO (pc := 20) (ci := 4) (f := 0) (dK D_Plan_lateOnForm_0 12 rfl) q_290 hc0 (ltK rfl) (ltK rfl) rfl ?_
    refine vg_getO (pc := 23) (ci := 8) (f := 0) (dK D_Plan_lateOnForm_0 13 rfl) q_222 (hw_4_0 hc0) (ltK rfl) (ltK rfl) rfl ?_
    refine vg_getA (pc := 26) (ci := 0) (f := 6) (dK D_Plan_lateOnForm_0 14 rfl) q_102 (hw_8_0 (hw_4_0 hc0)) (ltK rfl) (ltK rfl) rfl ?_
    refine g_iloadn (pc := 29) (i0 := 3) (j := 3) (dK D_Plan_lateOnForm_0 15 rfl) rfl rfl ?_
    refine gdE h (fun hi1 h => ?_)
    refine vg_iaload (pc := 30) (j := a3.toNat) (dK D_Plan_lateOnForm_0 16 rfl) (hw_0_6 (hw_8_0 (hw_4_0 hc0))) rfl hi1 rfl ?_
    refine bnE h (fun p2 e_p2 h => ?_)
    refine vg_cV (pc := 31) (As := [V (g S (tgt (tgt (tgt c0 0) 0) 6) a3.toNat)]) (rest := []) (mc' := 0) (ms' := 0) (dK D_Plan_lateOnForm_0 17 rfl) K_Plan_173 (fitK rfl) (ltK rfl) hc0 rfl (leK rfl) (leK rfl) (leK rfl) (tf_Plan_formAt hc0 (g_in _ _ _) e_p2) (kcI (fun h_p2 => ?_))
    refine g_iloadn (pc := 34) (i0 := 1) (j := 1) (dK D_Plan_lateOnForm_0 18 rfl) rfl rfl ?_
    refine vg_icmp_ne (pc := 35) (t := 60) (dK D_Plan_lateOnForm_0 19 rfl) rfl h_p2 ha1 (fun hc9 => ?_) (fun hc9 => ?_)
    · replace h := ifN h hc9
      refine nmE h (fun v3 e_v3 h => ?_)
      refine vg_iinc (pc := 60) (j := 3) (a := a3) (z := 1) (ls2 := [(3, V v3), (0, .ref c0), (1, V a1), (2, V a2)]) (dK D_Plan_lateOnForm_0 30 rfl) rfl e_v3 (ltK rfl) rfl ?_
      refine g_goto (pc := 63) (tgt := 4) (dK D_Plan_lateOnForm_0 31 rfl) rfl ?_
      refine gL_weak (ls' := [(0, .ref c0), (1, V a1), (2, V a2), (3, V v3)]) (sbc 1 rfl (sbc 2 rfl (sbc 3 rfl (sbc 0 rfl sbn)))) ?_
      replace h := ih _ h
      exact h ha2 (Vn_in e_v3)
    · replace h := ifP h hc9
      refine g_aloadn (pc := 38) (i0 := 0) (j := 0) (dK D_Plan_lateOnForm_0 20 rfl) rfl rfl ?_
      refine g_aloadn (pc := 39) (i0 := 0) (j := 0) (dK D_Plan_lateOnForm_0 21 rfl) rfl rfl ?_
      refine vg_getO (pc := 40) (ci := 4) (f := 0) (dK D_Plan_lateOnForm_0 22 rfl) q_290 hc0 (ltK rfl) (ltK rfl) rfl ?_
      refine vg_getO (pc := 43) (ci := 8) (f := 0) (dK D_Plan_lateOnForm_0 23 rfl) q_222 (hw_4_0 hc0) (ltK rfl) (ltK rfl) rfl ?_
      refine vg_getA (pc := 46) (ci := 0) (f := 5) (dK D_Plan_lateOnForm_0 24 rfl) q_99 (hw_8_0 (hw_4_0 hc0)) (ltK rfl) (ltK rfl) rfl ?_
      refine g_iloadn (pc := 49) (i0 := 3) (j := 3) (dK D_Plan_lateOnForm_0 25 rfl) rfl rfl ?_
      refine vg_iaload (pc := 50) (j := a3.toNat) (dK D_Plan_lateOnForm_0 26 rfl) (hw_0_5 (hw_8_0 (hw_4_0 hc0))) rfl hi1 rfl ?_
      refine bnE h (fun p4 e_p4 h => ?_)
      refine vg_cV (pc := 51) (As := [V (g S (tgt (tgt (tgt c0 0) 0) 5) a3.toNat)]) (rest := []) (mc' := 0) (ms' := 0) (dK D_Plan_lateOnForm_0 27 rfl) K_Plan_186 (fitK rfl) (ltK rfl) hc0 rfl (leK rfl) (leK rfl) (leK rfl) (tf_Plan_isLate hc0 (g_in _ _ _) e_p4) (kcB ?_)
      refine vg_ifB_eq (pc := 54) (b := p4) (t := 60) (dK D_Plan_lateOnForm_0 28 rfl) rfl (fun hc5 => ?_) (fun hc5 => ?_)
      · replace h := ifP h hc5
        refine nmE h (fun v7 e_v7 h => ?_)
        refine vg_iinc (pc := 57) (j := 2) (a := a2) (z := 1) (ls2 := [(2, V v7), (0, .ref c0), (1, V a1), (3, V a3)]) (dK D_Plan_lateOnForm_0 29 rfl) rfl e_v7 (ltK rfl) rfl ?_
        refine nmE h (fun v8 e_v8 h => ?_)
        refine vg_iinc (pc := 60) (j := 3) (a := a3) (z := 1) (ls2 := [(3, V v8), (2, V v7), (0, .ref c0), (1, V a1)]) (dK D_Plan_lateOnForm_0 30 rfl) rfl e_v8 (ltK rfl) rfl ?_
        refine g_goto (pc := 63) (tgt := 4) (dK D_Plan_lateOnForm_0 31 rfl) rfl ?_
        refine gL_weak (ls' := [(0, .ref c0), (1, V a1), (2, V v7), (3, V v8)]) (sbc 2 rfl (sbc 3 rfl (sbc 1 rfl (sbc 0 rfl sbn)))) ?_
        replace h := ih _ h
        exact h (Vn_in e_v7) (Vn_in e_v8)
      · replace h := ifN h hc5
        refine nmE h (fun v6 e_v6 h => ?_)
        refine vg_iinc (pc := 60) (j := 3) (a := a3) (z := 1) (ls2 := [(3, V v6), (0, .ref c0), (1, V a1), (2, V a2)]) (dK D_Plan_lateOnForm_0 30 rfl) rfl e_v6 (ltK rfl) rfl ?_
        refine g_goto (pc := 63) (tgt := 4) (dK D_Plan_lateOnForm_0 31 rfl) rfl ?_
        refine gL_weak (ls' := [(0, .ref c0), (1, V a1), (2, V a2), (3, V v6)]) (sbc 1 rfl (sbc 2 rfl (sbc 3 rfl (sbc 0 rfl sbn)))) ?_
        replace h := ih _ h
        exact h ha2 (Vn_in e_v6)
def lb_Plan_lateOnForm_68 (c0 : Nat) (a1 : Int) (S : St) (go : Int × Int → Option (Int)) (a2 : Int) (a3 : Int) : Option (Int) := if (g S (tgt (tgt c0 0) 1) 5) ≤ a3 then (some a2) else (if 0 ≤ a3 ∧ a3 < 10 then (bnO (fn_Plan_isLate c0 (g S (tgt (tgt (tgt c0 0) 1) 3) a3.toNat) S) fun p13 => if p13 = true then (bnO (fn_Plan_storyIsOn c0 a3 a1 S) fun p16 => if p16 = true then (nm (wr (a2 + 1)) fun v19 => nm (wr (a3 + 1)) fun v20 => go (v19, v20)) else (nm (wr (a3 + 1)) fun v18 => go (a2, v18))) else (nm (wr (a3 + 1)) fun v15 => go (a2, v15))) else none)
def lo_Plan_lateOnForm_68 (c0 : Nat) (a1 : Int) (S : St) : Nat → Int × Int → Option (Int) := lp fun go p => lb_Plan_lateOnForm_68 c0 a1 S go p.1 p.2
theorem tl_Plan_lateOnForm_68 {E : EV} {X : XT} {c0 : Nat} (hc0 : HC X 4 c0) {a1 : Int} (ha1 : inR a1) {S : St} {K : RK → PS → Prop} {q : Int} (hx : inR q → Go E M_Plan_lateOnForm 0 0 119 [(2, V q)] [] (WX X S) 0 0 K) : ∀ n a, lo_Plan_lateOnForm_68 c0 a1 S n a = some q → inR a.1 → inR a.2 → Go E M_Plan_lateOnForm 0 0 68 [(0, .ref c0), (1, V a1), (2, V a.1), (3, V a.2)] [] (WX X S) 0 0 K := by
  refine lp_ind (P := fun a : Int × Int => inR a.1 → inR a.2 → Go E M_Plan_lateOnForm 0 0 68 [(0, .ref c0), (1, V a1), (2, V a.1), (3, V a.2)] [] (WX X S) 0 0 K) (fun go ih a h => ?_)
  obtain ⟨a2, a3⟩ := a
  intro ha2 ha3
  show Go E M_Plan_lateOnForm 0 0 68 [(0, .ref c0), (1, V a1), (2, V a2), (3, V a3)] [] (WX X S) 0 0 K
  replace h : lb_Plan_lateOnForm_68 c0 a1 S go a2 a3 = some q := h
  unfold lb_Plan_lateOnForm_68 at h
  refine g_iloadn (pc := 68) (i0 := 3) (j := 3) (dK D_Plan_lateOnForm_0 34 rfl) rfl rfl ?_
  refine g_aloadn (pc := 69) (i0 := 0) (j := 0) (dK D_Plan_lateOnForm_0 35 rfl) rfl rfl ?_
  refine vg_getO (pc := 70) (ci := 4) (f := 0) (dK D_Plan_lateOnForm_0 36 rfl) q_290 hc0 (ltK rfl) (ltK rfl) rfl ?_
  refine vg_getO (pc := 73) (ci := 8) (f := 1) (dK D_Plan_lateOnForm_0 37 rfl) q_226 (hw_4_0 hc0) (ltK rfl) (ltK rfl) rfl ?_
  refine vg_getI (pc := 76) (ci := 9) (f := 5) (dK D_Plan_lateOnForm_0 38 rfl) q_154 (hw_8_1 (hw_4_0 hc0)) (ltK rfl) (ltK rfl) rfl ?_
  refine vg_icmp_ge (pc := 79) (t := 119) (dK D_Plan_lateOnForm_0 39 rfl) rfl ha3 (g_in _ _ _) (fun hc21 => ?_) (fun hc21 => ?_)
  · replace h := ifP h hc21
    obtain rfl := Option.some.inj h
    refine gL_weak (ls' := [(2, V a2)]) (sbc 2 rfl sbn) ?_
    exact hx ha2
  · replace h := ifN h hc21
    refine g_aloadn (pc := 82) (i0 := 0) (j := 0) (dK D_Plan_lateOnForm_0 40 rfl) rfl rfl ?_
    refine g_aloadn (pc := 83) (i0 := 0) (j := 0) (dK D_Plan_lateOnForm_0 41 rfl) rfl rfl ?_
    refine vg_getO (pc := 84) (ci := 4) (f := 0) (dK D_Plan_lateOnForm_0 42 rfl) q_290 hc0 (ltK rfl) (ltK rfl) rfl ?_
    refine vg_getO (pc := 87) (ci := 8) (f := 1) (dK D_Plan_lateOnForm_0 43 rfl) q_226 (hw_4_0 hc0) (ltK rfl) (ltK rfl) rfl ?_
    refine vg_getA (pc := 90) (ci := 9) (f := 3) (dK D_Plan_lateOnForm_0 44 rfl) q_147 (hw_8_1 (hw_4_0 hc0)) (ltK rfl) (ltK rfl) rfl ?_
    refine g_iloadn (pc := 93) (i0 := 3) (j := 3) (dK D_Plan_lateOnForm_0 45 rfl) rfl rfl ?_
    refine gdE h (fun hi12 h => ?_)
    refine vg_iaload (pc := 94) (j := a3.toNat) (dK D_Plan_lateOnForm_0 46 rfl) (hw_9_3 (hw_8_1 (hw_4_0 hc0))) rfl hi12 rfl ?_
    refine bnE h (fun p13 e_p13 h => ?_)
    refine vg_cV (pc := 95) (As := [V (g S (tgt (tgt (tgt c0 0) 1) 3) a3.toNat)]) (rest := []) (mc' := 0) (ms' := 0) (dK D_Plan_lateOnForm_0 47 rfl) K_Plan_186 (fitK rfl) (ltK rfl) hc0 rfl (leK rfl) (leK rfl) (leK rfl) (tf_Plan_isLate hc0 (g_in _ _ _) e_p13) (kcB ?_)
    refine vg_ifB_eq (pc := 98) (b := p13) (t := 113) (dK D_Plan_lateOnForm_0 48 rfl) rfl (fun hc14 => ?_) (fun hc14 => ?_)
    · replace h := ifP h hc14
      refine g_aloadn (pc := 101) (i0 := 0) (j := 0) (dK D_Plan_lateOnForm_0 49 rfl) rfl rfl ?_
      refine g_iloadn (pc := 102) (i0 := 3) (j := 3) (dK D_Plan_lateOnForm_1 0 rfl) rfl rfl ?_
      refine g_iloadn (pc := 103) (i0 := 1) (j := 1) (dK D_Plan_lateOnForm_1 1 rfl) rfl rfl ?_
      refine bnE h (fun p16 e_p16 h => ?_)
      refine vg_cV (pc := 104) (As := [V a3, V a1]) (rest := []) (mc' := 0) (ms' := 0) (dK D_Plan_lateOnForm_1 2 rfl) K_Plan_180 (fitK rfl) (ltK rfl) hc0 rfl (leK rfl) (leK rfl) (leK rfl) (tf_Plan_storyIsOn hc0 ha3 ha1 e_p16) (kcB ?_)
      refine vg_ifB_eq (pc := 107) (b := p16) (t := 113) (dK D_Plan_lateOnForm_1 3 rfl) rfl (fun hc17 => ?_) (fun hc17 => ?_)
      · replace h := ifP h hc17
        refine nmE h (fun v19 e_v19 h => ?_)
        refine vg_iinc (pc := 110) (j := 2) (a := a2) (z := 1) (ls2 := [(2, V v19), (0, .ref c0), (1, V a1), (3, V a3)]) (dK D_Plan_lateOnForm_1 4 rfl) rfl e_v19 (ltK rfl) rfl ?_
        refine nmE h (fun v20 e_v20 h => ?_)
        refine vg_iinc (pc := 113) (j := 3) (a := a3) (z := 1) (ls2 := [(3, V v20), (2, V v19), (0, .ref c0), (1, V a1)]) (dK D_Plan_lateOnForm_1 5 rfl) rfl e_v20 (ltK rfl) rfl ?_
        refine g_goto (pc := 116) (tgt := 68) (dK D_Plan_lateOnForm_1 6 rfl) rfl ?_
        refine gL_weak (ls' := [(0, .ref c0), (1, V a1), (2, V v19), (3, V v20)]) (sbc 2 rfl (sbc 3 rfl (sbc 1 rfl (sbc 0 rfl sbn)))) ?_
        replace h := ih _ h
        exact h (Vn_in e_v19) (Vn_in e_v20)
      · replace h := ifN h hc17
        refine nmE h (fun v18 e_v18 h => ?_)
        refine vg_iinc (pc := 113) (j := 3) (a := a3) (z := 1) (ls2 := [(3, V v18), (0, .ref c0), (1, V a1), (2, V a2)]) (dK D_Plan_lateOnForm_1 5 rfl) rfl e_v18 (ltK rfl) rfl ?_
        refine g_goto (pc := 116) (tgt := 68) (dK D_Plan_lateOnForm_1 6 rfl) rfl ?_
        refine gL_weak (ls' := [(0, .ref c0), (1, V a1), (2, V a2), (3, V v18)]) (sbc 1 rfl (sbc 2 rfl (sbc 3 rfl (sbc 0 rfl sbn)))) ?_
        replace h := ih _ h
        exact h ha2 (Vn_in e_v18)
    · replace h := ifN h hc14
      refine nmE h (fun v15 e_v15 h => ?_)
      refine vg_iinc (pc := 113) (j := 3) (a := a3) (z := 1) (ls2 := [(3, V v15), (0, .ref c0), (1, V a1), (2, V a2)]) (dK D_Plan_lateOnForm_1 5 rfl) rfl e_v15 (ltK rfl) rfl ?_
      refine g_goto (pc := 116) (tgt := 68) (dK D_Plan_lateOnForm_1 6 rfl) rfl ?_
      refine gL_weak (ls' := [(0, .ref c0), (1, V a1), (2, V a2), (3, V v15)]) (sbc 1 rfl (sbc 2 rfl (sbc 3 rfl (sbc 0 rfl sbn)))) ?_
      replace h := ih _ h
      exact h ha2 (Vn_in e_v15)
def fn_Plan_lateOnForm (c0 : Nat) (a1 : Int) (S : St) : Option (Int) := bnO (lo_Plan_lateOnForm_4 c0 a1 S FU (0, 0)) fun p11 => bnO (lo_Plan_lateOnForm_68 c0 a1 S FU (p11, 0)) fun p22 => some p22
theorem tf_Plan_lateOnForm {E : EV} {X : XT} {c0 : Nat} (hc0 : HC X 4 c0) {a1 : Int} (ha1 : inR a1) {S : St} {q : Int} (h : fn_Plan_lateOnForm c0 a1 S = some q) : Ev E M_Plan_lateOnForm [.ref c0, V a1] (WX X S) 0 0 (KI X q S) := by
  refine Ev.of pn_Plan rfl (leK rfl) ?_
  show Go E M_Plan_lateOnForm 0 0 0 [(0, .ref c0), (1, V a1)] [] (WX X S) 0 0 (KI X q S)
  unfold fn_Plan_lateOnForm at h
  refine vg_iconst (pc := 0) (dK D_Plan_lateOnForm_0 0 rfl) ?_
  refine g_istoren (pc := 1) (i0 := 2) (ls2 := [(2, V 0), (0, .ref c0), (1, V a1)]) (dK D_Plan_lateOnForm_0 1 rfl) rfl (ltK rfl) rfl ?_
  refine vg_iconst (pc := 2) (dK D_Plan_lateOnForm_0 2 rfl) ?_
  refine g_istoren (pc := 3) (i0 := 3) (ls2 := [(3, V 0), (2, V 0), (0, .ref c0), (1, V a1)]) (dK D_Plan_lateOnForm_0 3 rfl) rfl (ltK rfl) rfl ?_
  refine bnE h (fun p11 e_p11 h => ?_)
  refine gL_weak (ls' := [(0, .ref c0), (1, V a1), (2, V 0), (3, V 0)]) (sbc 2 rfl (sbc 3 rfl (sbc 1 rfl (sbc 0 rfl sbn)))) ?_
  refine tl_Plan_lateOnForm_4 hc0 ha1 (fun hx2_p11 => ?_) FU (0, 0) e_p11 (inRk rfl) (inRk rfl)
  refine vg_iconst (pc := 66) (dK D_Plan_lateOnForm_0 32 rfl) ?_
  refine g_istoren (pc := 67) (i0 := 3) (ls2 := [(3, V 0), (0, .ref c0), (1, V a1), (2, V p11)]) (dK D_Plan_lateOnForm_0 33 rfl) rfl (ltK rfl) rfl ?_
  refine bnE h (fun p22 e_p22 h => ?_)
  refine gL_weak (ls' := [(0, .ref c0), (1, V a1), (2, V p11), (3, V 0)]) (sbc 1 rfl (sbc 2 rfl (sbc 3 rfl (sbc 0 rfl sbn)))) ?_
  refine tl_Plan_lateOnForm_68 hc0 ha1 (fun hx2_p22 => ?_) FU (p11, 0) e_p22 hx2_p11 (inRk rfl)
  refine g_iloadn (pc := 119) (i0 := 2) (j := 0) (dK D_Plan_lateOnForm_1 7 rfl) rfl rfl ?_
  exact vg_iretI (pc := 120) (r := p22) (dK D_Plan_lateOnForm_1 8 rfl) rfl (leK rfl) (leK rfl) (fun _ => rfl) (by obtain rfl := Option.some.inj h; exact ⟨rfl, hx2_p22, rfl⟩)
def lb_Plan_hasColorItem_2 (c0 : Nat) (a1 : Int) (S : St) (go : Int → Option ((Bool) ⊕ (Unit))) (a2 : Int) : Option ((Bool) ⊕ (Unit)) := if (g S (tgt (tgt c0 0) 0) 7) ≤ a2 then (some (.inr ())) else (if 0 ≤ a2 ∧ a2 < 40 then (if (g S (tgt (tgt (tgt c0 0) 0) 2) a2.toNat) = 1 then (bnO (fn_Plan_formAt c0 (g S (tgt (tgt (tgt c0 0) 0) 6) a2.toNat) S) fun p3 => if p3 = a1 then (some (.inl true)) else (nm (wr (a2 + 1)) fun v4 => go v4)) else (nm (wr (a2 + 1)) fun v2 => go v2)) else none)
def lo_Plan_hasColorItem_2 (c0 : Nat) (a1 : Int) (S : St) : Nat → Int → Option ((Bool) ⊕ (Unit)) := lp fun go p => lb_Plan_hasColorItem_2 c0 a1 S go p
theorem tl_Plan_hasColorItem_2 {E : EV} {X : XT} {c0 : Nat} (hc0 : HC X 4 c0) {a1 : Int} (ha1 : inR a1) {S : St} {K : RK → PS → Prop} {q : (Bool) ⊕ (Unit)} (hx : ∀ p, q = .inr p → Go E M_Plan_hasColorItem 0 0 60 [(0, .ref c0), (1, V a1)] [] (WX X S) 0 0 K) (hr : ∀ p, q = .inl p → K (.inl (some (V (bi p)))) (WX X S)) : ∀ n a, lo_Plan_hasColorItem_2 c0 a1 S n a = some q → inR a → Go E M_Plan_hasColorItem 0 0 2 [(0, .ref c0), (1, V a1), (2, V a)] [] (WX X S) 0 0 K := by
  refine lp_ind (P := fun a : Int => inR a → Go E M_Plan_hasColorItem 0 0 2 [(0, .ref c0), (1, V a1), (2, V a)] [] (WX X S) 0 0 K) (fun go ih a2 h => ?_)
  intro ha2
  show Go E M_Plan_hasColorItem 0 0 2 [(0, .ref c0), (1, V a1), (2, V a2)] [] (WX X S) 0 0 K
  replace h : lb_Plan_hasColorItem_2 c0 a1 S go a2 = some q := h
  unfold lb_Plan_hasColorItem_2 at h
  refine g_iloadn (pc := 2) (i0 := 2) (j := 2) (dK D_Plan_hasColorItem_0 2 rfl) rfl rfl ?_
  refine g_aloadn (pc := 3) (i0 := 0) (j := 0) (dK D_Plan_hasColorItem_0 3 rfl) rfl rfl ?_
  refine vg_getO (pc := 4) (ci := 4) (f := 0) (dK D_Plan_hasColorItem_0 4 rfl) q_290 hc0 (ltK rfl) (ltK rfl) rfl ?_
  refine vg_getO (pc := 7) (ci := 8) (f := 0) (dK D_Plan_hasColorItem_0 5 rfl) q_222 (hw_4_0 hc0) (ltK rfl) (ltK rfl) rfl ?_
  refine vg_getI (pc := 10) (ci := 0) (f := 7) (dK D_Plan_hasColorItem_0 6 rfl) q_107 (hw_8_0 (hw_4_0 hc0)) (ltK rfl) (ltK rfl) rfl ?_
  refine vg_icmp_ge (pc := 13) (t := 60) (dK D_Plan_hasColorItem_0 7 rfl) rfl ha2 (g_in _ _ _) (fun hc7 => ?_) (fun hc7 => ?_)
  · replace h := ifP h hc7
    refine gL_weak (ls' := [(0, .ref c0), (1, V a1)]) (sbc 0 rfl (sbc 1 rfl sbn)) ?_
    exact hx _ (Option.some.inj h).symm 
  · replace h := ifN h hc7
    refine g_aloadn (pc := 16) (i0 := 0) (j := 0) (dK D_Plan_hasColorItem_0 8 rfl) rfl rfl ?_
    refine vg_getO (pc := 17) (ci := 4) (f := 0) (dK D_Plan_hasColorItem_0 9 rfl) q_290 hc0 (ltK rfl) (ltK rfl) rfl ?_
    refine vg_getO (pc := 20) (ci := 8) (f := 0) (dK D_Plan_hasColorItem_0 10 rfl) q_222 (hw_4_0 hc0) (ltK rfl) (ltK rfl) rfl ?_
    refine vg_getA (pc := 23) (ci := 0) (f := 2) (dK D_Plan_hasColorItem_0 11 rfl) q_86 (hw_8_0 (hw_4_0 hc0)) (ltK rfl) (ltK rfl) rfl ?_
    refine g_iloadn (pc := 26) (i0 := 2) (j := 2) (dK D_Plan_hasColorItem_0 12 rfl) rfl rfl ?_
    refine gdE h (fun hi1 h => ?_)
    refine vg_iaload (pc := 27) (j := a2.toNat) (dK D_Plan_hasColorItem_0 13 rfl) (hw_0_2 (hw_8_0 (hw_4_0 hc0))) rfl hi1 rfl ?_
    refine vg_iconst (pc := 28) (dK D_Plan_hasColorItem_0 14 rfl) ?_
    refine vg_icmp_ne (pc := 29) (t := 54) (dK D_Plan_hasColorItem_0 15 rfl) rfl (g_in _ _ _) (inRk rfl) (fun hc6 => ?_) (fun hc6 => ?_)
    · replace h := ifN h hc6
      refine nmE h (fun v2 e_v2 h => ?_)
      refine vg_iinc (pc := 54) (j := 2) (a := a2) (z := 1) (ls2 := [(2, V v2), (0, .ref c0), (1, V a1)]) (dK D_Plan_hasColorItem_0 28 rfl) rfl e_v2 (ltK rfl) rfl ?_
      refine g_goto (pc := 57) (tgt := 2) (dK D_Plan_hasColorItem_0 29 rfl) rfl ?_
      refine gL_weak (ls' := [(0, .ref c0), (1, V a1), (2, V v2)]) (sbc 1 rfl (sbc 2 rfl (sbc 0 rfl sbn))) ?_
      replace h := ih _ h
      exact h (Vn_in e_v2)
    · replace h := ifP h hc6
      refine g_aloadn (pc := 32) (i0 := 0) (j := 0) (dK D_Plan_hasColorItem_0 16 rfl) rfl rfl ?_
      refine g_aloadn (pc := 33) (i0 := 0) (j := 0) (dK D_Plan_hasColorItem_0 17 rfl) rfl rfl ?_
      refine vg_getO (pc := 34) (ci := 4) (f := 0) (dK D_Plan_hasColorItem_0 18 rfl) q_290 hc0 (ltK rfl) (ltK rfl) rfl ?_
      refine vg_getO (pc := 37) (ci := 8) (f := 0) (dK D_Plan_hasColorItem_0 19 rfl) q_222 (hw_4_0 hc0) (ltK rfl) (ltK rfl) rfl ?_
      refine vg_getA (pc := 40) (ci := 0) (f := 6) (dK D_Plan_hasColorItem_0 20 rfl) q_102 (hw_8_0 (hw_4_0 hc0)) (ltK rfl) (ltK rfl) rfl ?_
      refine g_iloadn (pc := 43) (i0 := 2) (j := 2) (dK D_Plan_hasColorItem_0 21 rfl) rfl rfl ?_
      refine vg_iaload (pc := 44) (j := a2.toNat) (dK D_Plan_hasColorItem_0 22 rfl) (hw_0_6 (hw_8_0 (hw_4_0 hc0))) rfl hi1 rfl ?_
      refine bnE h (fun p3 e_p3 h => ?_)
      refine vg_cV (pc := 45) (As := [V (g S (tgt (tgt (tgt c0 0) 0) 6) a2.toNat)]) (rest := []) (mc' := 0) (ms' := 0) (dK D_Plan_hasColorItem_0 23 rfl) K_Plan_173 (fitK rfl) (ltK rfl) hc0 rfl (leK rfl) (leK rfl) (leK rfl) (tf_Plan_formAt hc0 (g_in _ _ _) e_p3) (kcI (fun h_p3 => ?_))
      refine g_iloadn (pc := 48) (i0 := 1) (j := 1) (dK D_Plan_hasColorItem_0 24 rfl) rfl rfl ?_
      refine vg_icmp_ne (pc := 49) (t := 54) (dK D_Plan_hasColorItem_0 25 rfl) rfl h_p3 ha1 (fun hc5 => ?_) (fun hc5 => ?_)
      · replace h := ifN h hc5
        refine nmE h (fun v4 e_v4 h => ?_)
        refine vg_iinc (pc := 54) (j := 2) (a := a2) (z := 1) (ls2 := [(2, V v4), (0, .ref c0), (1, V a1)]) (dK D_Plan_hasColorItem_0 28 rfl) rfl e_v4 (ltK rfl) rfl ?_
        refine g_goto (pc := 57) (tgt := 2) (dK D_Plan_hasColorItem_0 29 rfl) rfl ?_
        refine gL_weak (ls' := [(0, .ref c0), (1, V a1), (2, V v4)]) (sbc 1 rfl (sbc 2 rfl (sbc 0 rfl sbn))) ?_
        replace h := ih _ h
        exact h (Vn_in e_v4)
      · replace h := ifP h hc5
        refine vg_iconst (pc := 52) (dK D_Plan_hasColorItem_0 26 rfl) ?_
        exact vg_iretB (pc := 53) (b := true) (dK D_Plan_hasColorItem_0 27 rfl) rfl (leK rfl) (leK rfl) (fun _ => rfl) (hr _ (Option.some.inj h).symm)
def lb_Plan_hasColorItem_62 (c0 : Nat) (a1 : Int) (S : St) (go : Int → Option ((Bool) ⊕ (Unit))) (a2 : Int) : Option ((Bool) ⊕ (Unit)) := if (g S (tgt (tgt c0 0) 1) 5) ≤ a2 then (some (.inr ())) else (if 0 ≤ a2 ∧ a2 < 10 then (if (g S (tgt (tgt (tgt c0 0) 1) 1) a2.toNat) = 1 then (bnO (fn_Plan_storyIsOn c0 a2 a1 S) fun p11 => if p11 = true then (some (.inl true)) else (nm (wr (a2 + 1)) fun v13 => go v13)) else (nm (wr (a2 + 1)) fun v10 => go v10)) else none)
def lo_Plan_hasColorItem_62 (c0 : Nat) (a1 : Int) (S : St) : Nat → Int → Option ((Bool) ⊕ (Unit)) := lp fun go p => lb_Plan_hasColorItem_62 c0 a1 S go p
theorem tl_Plan_hasColorItem_62 {E : EV} {X : XT} {c0 : Nat} (hc0 : HC X 4 c0) {a1 : Int} (ha1 : inR a1) {S : St} {K : RK → PS → Prop} {q : (Bool) ⊕ (Unit)} (hx : ∀ p, q = .inr p → Go E M_Plan_hasColorItem 0 0 109 [] [] (WX X S) 0 0 K) (hr : ∀ p, q = .inl p → K (.inl (some (V (bi p)))) (WX X S)) : ∀ n a, lo_Plan_hasColorItem_62 c0 a1 S n a = some q → inR a → Go E M_Plan_hasColorItem 0 0 62 [(0, .ref c0), (1, V a1), (2, V a)] [] (WX X S) 0 0 K := by
  refine lp_ind (P := fun a : Int => inR a → Go E M_Plan_hasColorItem 0 0 62 [(0, .ref c0), (1, V a1), (2, V a)] [] (WX X S) 0 0 K) (fun go ih a2 h => ?_)
  intro ha2
  show Go E M_Plan_hasColorItem 0 0 62 [(0, .ref c0), (1, V a1), (2, V a2)] [] (WX X S) 0 0 K
  replace h : lb_Plan_hasColorItem_62 c0 a1 S go a2 = some q := h
  unfold lb_Plan_hasColorItem_62 at h
  refine g_iloadn (pc := 62) (i0 := 2) (j := 2) (dK D_Plan_hasColorItem_0 32 rfl) rfl rfl ?_
  refine g_aloadn (pc := 63) (i0 := 0) (j := 0) (dK D_Plan_hasColorItem_0 33 rfl) rfl rfl ?_
  refine vg_getO (pc := 64) (ci := 4) (f := 0) (dK D_Plan_hasColorItem_0 34 rfl) q_290 hc0 (ltK rfl) (ltK rfl) rfl ?_
  refine vg_getO (pc := 67) (ci := 8) (f := 1) (dK D_Plan_hasColorItem_0 35 rfl) q_226 (hw_4_0 hc0) (ltK rfl) (ltK rfl) rfl ?_
  refine vg_getI (pc := 70) (ci := 9) (f := 5) (dK D_Plan_hasColorItem_0 36 rfl) q_154 (hw_8_1 (hw_4_0 hc0)) (ltK rfl) (ltK rfl) rfl ?_
  refine vg_icmp_ge (pc := 73) (t := 109) (dK D_Plan_hasColorItem_0 37 rfl) rfl ha2 (g_in _ _ _) (fun hc15 => ?_) (fun hc15 => ?_)
  · replace h := ifP h hc15
    refine gL_weak (ls' := []) sbn ?_
    exact hx _ (Option.some.inj h).symm 
  · replace h := ifN h hc15
    refine g_aloadn (pc := 76) (i0 := 0) (j := 0) (dK D_Plan_hasColorItem_0 38 rfl) rfl rfl ?_
    refine vg_getO (pc := 77) (ci := 4) (f := 0) (dK D_Plan_hasColorItem_0 39 rfl) q_290 hc0 (ltK rfl) (ltK rfl) rfl ?_
    refine vg_getO (pc := 80) (ci := 8) (f := 1) (dK D_Plan_hasColorItem_0 40 rfl) q_226 (hw_4_0 hc0) (ltK rfl) (ltK rfl) rfl ?_
    refine vg_getA (pc := 83) (ci := 9) (f := 1) (dK D_Plan_hasColorItem_0 41 rfl) q_139 (hw_8_1 (hw_4_0 hc0)) (ltK rfl) (ltK rfl) rfl ?_
    refine g_iloadn (pc := 86) (i0 := 2) (j := 2) (dK D_Plan_hasColorItem_0 42 rfl) rfl rfl ?_
    refine gdE h (fun hi9 h => ?_)
    refine vg_iaload (pc := 87) (j := a2.toNat) (dK D_Plan_hasColorItem_0 43 rfl) (hw_9_1 (hw_8_1 (hw_4_0 hc0))) rfl hi9 rfl ?_
    refine vg_iconst (pc := 88) (dK D_Plan_hasColorItem_0 44 rfl) ?_
    refine vg_icmp_ne (pc := 89) (t := 103) (dK D_Plan_hasColorItem_0 45 rfl) rfl (g_in _ _ _) (inRk rfl) (fun hc14 => ?_) (fun hc14 => ?_)
    · replace h := ifN h hc14
      refine nmE h (fun v10 e_v10 h => ?_)
      refine vg_iinc (pc := 103) (j := 2) (a := a2) (z := 1) (ls2 := [(2, V v10), (0, .ref c0), (1, V a1)]) (dK D_Plan_hasColorItem_1 3 rfl) rfl e_v10 (ltK rfl) rfl ?_
      refine g_goto (pc := 106) (tgt := 62) (dK D_Plan_hasColorItem_1 4 rfl) rfl ?_
      refine gL_weak (ls' := [(0, .ref c0), (1, V a1), (2, V v10)]) (sbc 1 rfl (sbc 2 rfl (sbc 0 rfl sbn))) ?_
      replace h := ih _ h
      exact h (Vn_in e_v10)
    · replace h := ifP h hc14
      refine g_aloadn (pc := 92) (i0 := 0) (j := 0) (dK D_Plan_hasColorItem_0 46 rfl) rfl rfl ?_
      refine g_iloadn (pc := 93) (i0 := 2) (j := 2) (dK D_Plan_hasColorItem_0 47 rfl) rfl rfl ?_
      refine g_iloadn (pc := 94) (i0 := 1) (j := 1) (dK D_Plan_hasColorItem_0 48 rfl) rfl rfl ?_
      refine bnE h (fun p11 e_p11 h => ?_)
      refine vg_cV (pc := 95) (As := [V a2, V a1]) (rest := []) (mc' := 0) (ms' := 0) (dK D_Plan_hasColorItem_0 49 rfl) K_Plan_180 (fitK rfl) (ltK rfl) hc0 rfl (leK rfl) (leK rfl) (leK rfl) (tf_Plan_storyIsOn hc0 ha2 ha1 e_p11) (kcB ?_)
      refine vg_ifB_eq (pc := 98) (b := p11) (t := 103) (dK D_Plan_hasColorItem_1 0 rfl) rfl (fun hc12 => ?_) (fun hc12 => ?_)
      · replace h := ifP h hc12
        refine vg_iconst (pc := 101) (dK D_Plan_hasColorItem_1 1 rfl) ?_
        exact vg_iretB (pc := 102) (b := true) (dK D_Plan_hasColorItem_1 2 rfl) rfl (leK rfl) (leK rfl) (fun _ => rfl) (hr _ (Option.some.inj h).symm)
      · replace h := ifN h hc12
        refine nmE h (fun v13 e_v13 h => ?_)
        refine vg_iinc (pc := 103) (j := 2) (a := a2) (z := 1) (ls2 := [(2, V v13), (0, .ref c0), (1, V a1)]) (dK D_Plan_hasColorItem_1 3 rfl) rfl e_v13 (ltK rfl) rfl ?_
        refine g_goto (pc := 106) (tgt := 62) (dK D_Plan_hasColorItem_1 4 rfl) rfl ?_
        refine gL_weak (ls' := [(0, .ref c0), (1, V a1), (2, V v13)]) (sbc 1 rfl (sbc 2 rfl (sbc 0 rfl sbn))) ?_
        replace h := ih _ h
        exact h (Vn_in e_v13)
def fn_Plan_hasColorItem (c0 : Nat) (a1 : Int) (S : St) : Option (Bool) := bnS (lo_Plan_hasColorItem_2 c0 a1 S FU 0) (fun p18 => some p18) fun p8 => bnS (lo_Plan_hasColorItem_62 c0 a1 S FU 0) (fun p17 => some p17) fun p16 => some false
theorem tf_Plan_hasColorItem {E : EV} {X : XT} {c0 : Nat} (hc0 : HC X 4 c0) {a1 : Int} (ha1 : inR a1) {S : St} {q : Bool} (h : fn_Plan_hasColorItem c0 a1 S = some q) : Ev E M_Plan_hasColorItem [.ref c0, V a1] (WX X S) 0 0 (KB X q S) := by
  refine Ev.of pn_Plan rfl (leK rfl) ?_
  show Go E M_Plan_hasColorItem 0 0 0 [(0, .ref c0), (1, V a1)] [] (WX X S) 0 0 (KB X q S)
  unfold fn_Plan_hasColorItem at h
  refine vg_iconst (pc := 0) (dK D_Plan_hasColorItem_0 0 rfl) ?_
  refine g_istoren (pc := 1) (i0 := 2) (ls2 := [(2, V 0), (0, .ref c0), (1, V a1)]) (dK D_Plan_hasColorItem_0 1 rfl) rfl (ltK rfl) rfl ?_
  refine bnSE h (fun p18 e_p18 h => ?_) (fun p8 e_p8 h => ?_)
  · refine gL_weak (ls' := [(0, .ref c0), (1, V a1), (2, V 0)]) (sbc 1 rfl (sbc 2 rfl (sbc 0 rfl sbn))) ?_
    refine tl_Plan_hasColorItem_2 hc0 ha1 (fun _ e => slr e) (fun p e => ?_) FU 0 e_p18 (inRk rfl)
    have e := Sum.inl.inj e
    subst e
    exact (by obtain rfl := Option.some.inj h; exact ⟨rfl, rfl⟩)
  · refine gL_weak (ls' := [(0, .ref c0), (1, V a1), (2, V 0)]) (sbc 1 rfl (sbc 2 rfl (sbc 0 rfl sbn))) ?_
    refine tl_Plan_hasColorItem_2 hc0 ha1 (fun p e => ?_) (fun _ e => srl e) FU 0 e_p8 (inRk rfl)
    have e := Sum.inr.inj e
    subst e
    refine vg_iconst (pc := 60) (dK D_Plan_hasColorItem_0 30 rfl) ?_
    refine g_istoren (pc := 61) (i0 := 2) (ls2 := [(2, V 0), (0, .ref c0), (1, V a1)]) (dK D_Plan_hasColorItem_0 31 rfl) rfl (ltK rfl) rfl ?_
    refine bnSE h (fun p17 e_p17 h => ?_) (fun p16 e_p16 h => ?_)
    · refine gL_weak (ls' := [(0, .ref c0), (1, V a1), (2, V 0)]) (sbc 1 rfl (sbc 2 rfl (sbc 0 rfl sbn))) ?_
      refine tl_Plan_hasColorItem_62 hc0 ha1 (fun _ e => slr e) (fun p e => ?_) FU 0 e_p17 (inRk rfl)
      have e := Sum.inl.inj e
      subst e
      exact (by obtain rfl := Option.some.inj h; exact ⟨rfl, rfl⟩)
    · refine gL_weak (ls' := [(0, .ref c0), (1, V a1), (2, V 0)]) (sbc 1 rfl (sbc 2 rfl (sbc 0 rfl sbn))) ?_
      refine tl_Plan_hasColorItem_62 hc0 ha1 (fun p e => ?_) (fun _ e => srl e) FU 0 e_p16 (inRk rfl)
      have e := Sum.inr.inj e
      subst e
      refine vg_iconst (pc := 109) (dK D_Plan_hasColorItem_1 5 rfl) ?_
      exact vg_iretB (pc := 110) (b := false) (dK D_Plan_hasColorItem_1 6 rfl) rfl (leK rfl) (leK rfl) (fun _ => rfl) (by obtain rfl := Option.some.inj h; exact ⟨rfl, rfl⟩)
def fn_FP_form (c0 : Nat) (a1 : Int) (a2 : Int) (S : St) : Option (Nat × Int) := bnO (fn_FP_needForm c0 a1 S) fun p1 => if p1 = 0 then (if a2 = 0 then (if 0 ≤ a1 ∧ a1 < 8 then (some (0, (g S (tgt (tgt (tgt (tgt c0 3) 0) 3) 0) a1.toNat))) else none) else if a2 = 1 then (if 0 ≤ a1 ∧ a1 < 8 then (some (0, (g S (tgt (tgt (tgt (tgt c0 3) 0) 3) 1) a1.toNat))) else none) else if a2 = 2 then (if 0 ≤ a1 ∧ a1 < 8 then (bnO (fn_FP_orNone (g S (tgt (tgt (tgt (tgt c0 3) 0) 3) 2) a1.toNat) S) fun p8 => some (0, p8)) else none) else if a2 = 3 then (some (0, (wr ((g S (tgt (tgt c0 3) 0) 5).tdiv 2)))) else if a2 = 4 then (bnO (fn_Plan_leftOnForm (tgt c0 3) a1 S) fun p11 => some (0, p11)) else if a2 = 5 then (bnO (fn_Plan_adsOnForm (tgt c0 3) a1 S) fun p13 => some (0, p13)) else if a2 = 6 then (bnO (fn_Plan_lateOnForm (tgt c0 3) a1 S) fun p15 => some (0, p15)) else if a2 = 7 then (bnO (fn_Plan_hasColorItem (tgt c0 3) a1 S) fun p17 => if p17 = true then (some (0, 1)) else (some (0, 0))) else (some (0, (-1)))) else (some (p1, 0))
theorem tf_FP_form {E : EV} {X : XT} (hfl : X.2.2.2 = false) {c0 : Nat} (hc0 : HC X 10 c0) {a1 : Int} (ha1 : inR a1) {a2 : Int} (ha2 : inR a2) {S : St} {q : Nat × Int} (h : fn_FP_form c0 a1 a2 S = some q) : Ev E M_FP_form [.ref c0, V a1, V a2] (WX X S) 1 6 (KT X q.1 S (KI X q.2 S)) := by
  refine Ev.of pn_FP rfl (leK rfl) ?_
  show Go E M_FP_form 1 6 0 [(0, .ref c0), (1, V a1), (2, V a2)] [] (WX X S) 0 0 (KT X q.1 S (KI X q.2 S))
  unfold fn_FP_form at h
  refine g_aloadn (pc := 0) (i0 := 0) (j := 0) (dK D_FP_form_0 0 rfl) rfl rfl ?_
  refine g_iloadn (pc := 1) (i0 := 1) (j := 1) (dK D_FP_form_0 1 rfl) rfl rfl ?_
  refine bnE h (fun p1 e_p1 h => ?_)
  refine vg_cV (pc := 2) (As := [V a1]) (rest := []) (mc' := 1) (ms' := 6) (dK D_FP_form_0 2 rfl) K_FP_223 (fitK rfl) (ltK rfl) hc0 rfl (leK rfl) (leK rfl) (leK rfl) (tf_FP_needForm hfl hc0 ha1 e_p1) (kcT hfl (fun he19 => kcU ?_) (fun he19 => ⟨rfl, ?_⟩))
  · replace h := ifP h he19
    refine g_aloadn (pc := 5) (i0 := 0) (j := 0) (dK D_FP_form_0 3 rfl) rfl rfl ?_
    refine vg_getO (pc := 6) (ci := 10) (f := 3) (dK D_FP_form_0 4 rfl) q_425 hc0 (ltK rfl) (ltK rfl) rfl ?_
    refine vg_getO (pc := 9) (ci := 4) (f := 0) (dK D_FP_form_0 5 rfl) q_292 (hw_10_3 hc0) (ltK rfl) (ltK rfl) rfl ?_
    refine vg_getO (pc := 12) (ci := 8) (f := 3) (dK D_FP_form_0 6 rfl) q_237 (hw_4_0 (hw_10_3 hc0)) (ltK rfl) (ltK rfl) rfl ?_
    refine g_astoren (pc := 15) (i0 := 3) (ls2 := [(3, .ref (tgt (tgt (tgt c0 3) 0) 3)), (0, .ref c0), (1, V a1), (2, V a2)]) (dK D_FP_form_0 7 rfl) rfl (ltK rfl) rfl ?_
    refine g_iloadn (pc := 16) (i0 := 2) (j := 3) (dK D_FP_form_0 8 rfl) rfl rfl ?_
    by_cases hk2 : a2 = 0
    · have h := ifP h hk2
      refine vg_tabK (pc := 17) (kk := 0) (t := 64) (dK D_FP_form_0 9 rfl) hk2 rfl rfl rfl rfl ?_
      refine g_aloadn (pc := 64) (i0 := 3) (j := 0) (dK D_FP_form_0 10 rfl) rfl rfl ?_
      refine vg_getA (pc := 65) (ci := 2) (f := 0) (dK D_FP_form_0 11 rfl) q_203 (hw_8_3 (hw_4_0 (hw_10_3 hc0))) (ltK rfl) (ltK rfl) rfl ?_
      refine g_iloadn (pc := 68) (i0 := 1) (j := 2) (dK D_FP_form_0 12 rfl) rfl rfl ?_
      refine gdE h (fun hi3 h => ?_)
      refine vg_iaload (pc := 69) (j := a1.toNat) (dK D_FP_form_0 13 rfl) (hw_2_0 (hw_8_3 (hw_4_0 (hw_10_3 hc0)))) rfl hi3 rfl ?_
      exact vg_iretI (pc := 70) (r := (g S (tgt (tgt (tgt (tgt c0 3) 0) 3) 0) a1.toNat)) (dK D_FP_form_0 14 rfl) rfl (leK rfl) (leK rfl) (xf hfl) (by obtain rfl := Option.some.inj h; exact KT_ok ⟨rfl, (g_in _ _ _), rfl⟩)
    replace h := ifN h hk2
    by_cases hk4 : a2 = 1
    · have h := ifP h hk4
      refine vg_tabK (pc := 17) (kk := 1) (t := 71) (dK D_FP_form_0 9 rfl) hk4 rfl rfl rfl rfl ?_
      refine g_aloadn (pc := 71) (i0 := 3) (j := 0) (dK D_FP_form_0 15 rfl) rfl rfl ?_
      refine vg_getA (pc := 72) (ci := 2) (f := 1) (dK D_FP_form_0 16 rfl) q_207 (hw_8_3 (hw_4_0 (hw_10_3 hc0))) (ltK rfl) (ltK rfl) rfl ?_
      refine g_iloadn (pc := 75) (i0 := 1) (j := 2) (dK D_FP_form_0 17 rfl) rfl rfl ?_
      refine gdE h (fun hi5 h => ?_)
      refine vg_iaload (pc := 76) (j := a1.toNat) (dK D_FP_form_0 18 rfl) (hw_2_1 (hw_8_3 (hw_4_0 (hw_10_3 hc0)))) rfl hi5 rfl ?_
      exact vg_iretI (pc := 77) (r := (g S (tgt (tgt (tgt (tgt c0 3) 0) 3) 1) a1.toNat)) (dK D_FP_form_0 19 rfl) rfl (leK rfl) (leK rfl) (xf hfl) (by obtain rfl := Option.some.inj h; exact KT_ok ⟨rfl, (g_in _ _ _), rfl⟩)
    replace h := ifN h hk4
    by_cases hk6 : a2 = 2
    · have h := ifP h hk6
      refine vg_tabK (pc := 17) (kk := 2) (t := 78) (dK D_FP_form_0 9 rfl) hk6 rfl rfl rfl rfl ?_
      refine g_aloadn (pc := 78) (i0 := 3) (j := 0) (dK D_FP_form_0 20 rfl) rfl rfl ?_
      refine vg_getA (pc := 79) (ci := 2) (f := 2) (dK D_FP_form_0 21 rfl) q_212 (hw_8_3 (hw_4_0 (hw_10_3 hc0))) (ltK rfl) (ltK rfl) rfl ?_
      refine g_iloadn (pc := 82) (i0 := 1) (j := 2) (dK D_FP_form_0 22 rfl) rfl rfl ?_
      refine gdE h (fun hi7 h => ?_)
      refine vg_iaload (pc := 83) (j := a1.toNat) (dK D_FP_form_0 23 rfl) (hw_2_2 (hw_8_3 (hw_4_0 (hw_10_3 hc0)))) rfl hi7 rfl ?_
      refine bnE h (fun p8 e_p8 h => ?_)
      refine vg_cS (pc := 84) (As := [V (g S (tgt (tgt (tgt (tgt c0 3) 0) 3) 2) a1.toNat)]) (rest := []) (mc' := 0) (ms' := 0) (dK D_FP_form_0 24 rfl) K_FP_185 (fitK rfl) rfl (leK rfl) (leK rfl) (leK rfl) (tf_FP_orNone (g_in _ _ _) e_p8) (kcI (fun h_p8 => ?_))
      exact vg_iretI (pc := 87) (r := p8) (dK D_FP_form_0 25 rfl) rfl (leK rfl) (leK rfl) (xf hfl) (by obtain rfl := Option.some.inj h; exact KT_ok ⟨rfl, h_p8, rfl⟩)
    replace h := ifN h hk6
    by_cases hk9 : a2 = 3
    · have h := ifP h hk9
      refine vg_tabK (pc := 17) (kk := 3) (t := 88) (dK D_FP_form_0 9 rfl) hk9 rfl rfl rfl rfl ?_
      refine g_aloadn (pc := 88) (i0 := 0) (j := 1) (dK D_FP_form_0 26 rfl) rfl rfl ?_
      refine vg_getO (pc := 89) (ci := 10) (f := 3) (dK D_FP_form_0 27 rfl) q_425 hc0 (ltK rfl) (ltK rfl) rfl ?_
      refine vg_getO (pc := 92) (ci := 4) (f := 0) (dK D_FP_form_0 28 rfl) q_292 (hw_10_3 hc0) (ltK rfl) (ltK rfl) rfl ?_
      refine vg_getI (pc := 95) (ci := 8) (f := 5) (dK D_FP_form_0 29 rfl) q_244 (hw_4_0 (hw_10_3 hc0)) (ltK rfl) (ltK rfl) rfl ?_
      refine vg_iconst (pc := 98) (dK D_FP_form_0 30 rfl) ?_
      refine vg_idiv (pc := 99) (dK D_FP_form_0 31 rfl) (g_in _ _ _) (inRk rfl) (by decide) ?_
      refine gtop (x := (wr ((g S (tgt (tgt c0 3) 0) 5).tdiv 2))) rfl ?_
      exact vg_iretI (pc := 100) (r := (wr ((g S (tgt (tgt c0 3) 0) 5).tdiv 2))) (dK D_FP_form_0 32 rfl) rfl (leK rfl) (leK rfl) (xf hfl) (by obtain rfl := Option.some.inj h; exact KT_ok ⟨rfl, (wr_in _), rfl⟩)
    replace h := ifN h hk9
    by_cases hk10 : a2 = 4
    · have h := ifP h hk10
      refine vg_tabK (pc := 17) (kk := 4) (t := 101) (dK D_FP_form_0 9 rfl) hk10 rfl rfl rfl rfl ?_
      refine g_aloadn (pc := 101) (i0 := 0) (j := 1) (dK D_FP_form_0 33 rfl) rfl rfl ?_
      refine vg_getO (pc := 102) (ci := 10) (f := 3) (dK D_FP_form_0 34 rfl) q_425 hc0 (ltK rfl) (ltK rfl) rfl ?_
      refine g_iloadn (pc := 105) (i0 := 1) (j := 2) (dK D_FP_form_0 35 rfl) rfl rfl ?_
      refine bnE h (fun p11 e_p11 h => ?_)
      refine vg_cV (pc := 106) (As := [V a1]) (rest := []) (mc' := 0) (ms' := 0) (dK D_FP_form_0 36 rfl) K_FP_232 (fitK rfl) (ltK rfl) (hw_10_3 hc0) rfl (leK rfl) (leK rfl) (leK rfl) (tf_Plan_leftOnForm (hw_10_3 hc0) ha1 e_p11) (kcI (fun h_p11 => ?_))
      exact vg_iretI (pc := 109) (r := p11) (dK D_FP_form_0 37 rfl) rfl (leK rfl) (leK rfl) (xf hfl) (by obtain rfl := Option.some.inj h; exact KT_ok ⟨rfl, h_p11, rfl⟩)
    replace h := ifN h hk10
    by_cases hk12 : a2 = 5
    · have h := ifP h hk12
      refine vg_tabK (pc := 17) (kk := 5) (t := 110) (dK D_FP_form_0 9 rfl) hk12 rfl rfl rfl rfl ?_
      refine g_aloadn (pc := 110) (i0 := 0) (j := 1) (dK D_FP_form_0 38 rfl) rfl rfl ?_
      refine vg_getO (pc := 111) (ci := 10) (f := 3) (dK D_FP_form_0 39 rfl) q_425 hc0 (ltK rfl) (ltK rfl) rfl ?_
      refine g_iloadn (pc := 114) (i0 := 1) (j := 2) (dK D_FP_form_0 40 rfl) rfl rfl ?_
      refine bnE h (fun p13 e_p13 h => ?_)
      refine vg_cV (pc := 115) (As := [V a1]) (rest := []) (mc' := 0) (ms' := 0) (dK D_FP_form_0 41 rfl) K_FP_235 (fitK rfl) (ltK rfl) (hw_10_3 hc0) rfl (leK rfl) (leK rfl) (leK rfl) (tf_Plan_adsOnForm (hw_10_3 hc0) ha1 e_p13) (kcI (fun h_p13 => ?_))
      exact vg_iretI (pc := 118) (r := p13) (dK D_FP_form_0 42 rfl) rfl (leK rfl) (leK rfl) (xf hfl) (by obtain rfl := Option.some.inj h; exact KT_ok ⟨rfl, h_p13, rfl⟩)
    replace h := ifN h hk12
    by_cases hk14 : a2 = 6
    · have h := ifP h hk14
      refine vg_tabK (pc := 17) (kk := 6) (t := 119) (dK D_FP_form_0 9 rfl) hk14 rfl rfl rfl rfl ?_
      refine g_aloadn (pc := 119) (i0 := 0) (j := 1) (dK D_FP_form_0 43 rfl) rfl rfl ?_
      refine vg_getO (pc := 120) (ci := 10) (f := 3) (dK D_FP_form_0 44 rfl) q_425 hc0 (ltK rfl) (ltK rfl) rfl ?_
      refine g_iloadn (pc := 123) (i0 := 1) (j := 2) (dK D_FP_form_0 45 rfl) rfl rfl ?_
      refine bnE h (fun p15 e_p15 h => ?_)
      refine vg_cV (pc := 124) (As := [V a1]) (rest := []) (mc' := 0) (ms' := 0) (dK D_FP_form_0 46 rfl) K_FP_238 (fitK rfl) (ltK rfl) (hw_10_3 hc0) rfl (leK rfl) (leK rfl) (leK rfl) (tf_Plan_lateOnForm (hw_10_3 hc0) ha1 e_p15) (kcI (fun h_p15 => ?_))
      exact vg_iretI (pc := 127) (r := p15) (dK D_FP_form_0 47 rfl) rfl (leK rfl) (leK rfl) (xf hfl) (by obtain rfl := Option.some.inj h; exact KT_ok ⟨rfl, h_p15, rfl⟩)
    replace h := ifN h hk14
    by_cases hk16 : a2 = 7
    · have h := ifP h hk16
      refine vg_tabK (pc := 17) (kk := 7) (t := 128) (dK D_FP_form_0 9 rfl) hk16 rfl rfl rfl rfl ?_
      refine g_aloadn (pc := 128) (i0 := 0) (j := 1) (dK D_FP_form_0 48 rfl) rfl rfl ?_
      refine vg_getO (pc := 129) (ci := 10) (f := 3) (dK D_FP_form_0 49 rfl) q_425 hc0 (ltK rfl) (ltK rfl) rfl ?_
      refine g_iloadn (pc := 132) (i0 := 1) (j := 2) (dK D_FP_form_1 0 rfl) rfl rfl ?_
      refine bnE h (fun p17 e_p17 h => ?_)
      refine vg_cV (pc := 133) (As := [V a1]) (rest := []) (mc' := 0) (ms' := 0) (dK D_FP_form_1 1 rfl) K_FP_241 (fitK rfl) (ltK rfl) (hw_10_3 hc0) rfl (leK rfl) (leK rfl) (leK rfl) (tf_Plan_hasColorItem (hw_10_3 hc0) ha1 e_p17) (kcB ?_)
      refine vg_ifB_eq (pc := 136) (b := p17) (t := 143) (dK D_FP_form_1 2 rfl) rfl (fun hc18 => ?_) (fun hc18 => ?_)
      · replace h := ifP h hc18
        refine vg_iconst (pc := 139) (dK D_FP_form_1 3 rfl) ?_
        refine g_goto (pc := 140) (tgt := 144) (dK D_FP_form_1 4 rfl) rfl ?_
        exact vg_iretI (pc := 144) (r := 1) (dK D_FP_form_1 6 rfl) rfl (leK rfl) (leK rfl) (xf hfl) (by obtain rfl := Option.some.inj h; exact KT_ok ⟨rfl, (inRk rfl), rfl⟩)
      · replace h := ifN h hc18
        refine vg_iconst (pc := 143) (dK D_FP_form_1 5 rfl) ?_
        exact vg_iretI (pc := 144) (r := 0) (dK D_FP_form_1 6 rfl) rfl (leK rfl) (leK rfl) (xf hfl) (by obtain rfl := Option.some.inj h; exact KT_ok ⟨rfl, (inRk rfl), rfl⟩)
    replace h := ifN h hk16
    refine vg_tabD (pc := 17) (t := 145) (lo := 0) (hi := 7) (dK D_FP_form_0 9 rfl) ha2 (by omega) rfl ?_
    refine vg_iconst (pc := 145) (dK D_FP_form_1 7 rfl) ?_
    exact vg_iretI (pc := 146) (r := (-1)) (dK D_FP_form_1 8 rfl) rfl (leK rfl) (leK rfl) (xf hfl) (by obtain rfl := Option.some.inj h; exact KT_ok ⟨rfl, (inRk rfl), rfl⟩)
  · replace h := ifN h he19
    obtain rfl := Option.some.inj h
    exact KT_thr he19
def fn_Law_form (c0 : Nat) (a1 : Int) (a2 : Int) (c3 : Nat) (S : St) : Option (Int × St) := bnO (fn_FP_form c0 a1 a2 S) fun p1 => if p1.1 = 0 then (nm (ul S c3 0 p1.2) fun S2 => some (0, S2)) else (if p1.1 = 1 then (some (1, S)) else none)
theorem tf_Law_form {E : EV} {X : XT} (hfl : X.2.2.2 = false) {c0 : Nat} (hc0 : HC X 10 c0) {a1 : Int} (ha1 : inR a1) {a2 : Int} (ha2 : inR a2) {c3 : Nat} (hc3 : HA X 3 1 c3) {S : St} {q : Int × St} (h : fn_Law_form c0 a1 a2 c3 S = some q) : EvH E M_Law_form [.ref c0, V a1, V a2, .ref c3] (WX X S) 1 6 (KI X q.1 q.2) := by
  refine EvH.of pn_Law (leK rfl) ?_
  show Go E M_Law_form 1 6 0 [(0, .ref c0), (1, V a1), (2, V a2), (3, .ref c3)] [] (WX X S) 0 0 (KI X q.1 q.2)
  unfold fn_Law_form at h
  refine g_aloadn (pc := 0) (i0 := 3) (j := 3) (dK D_Law_form 0 rfl) rfl rfl ?_
  refine vg_iconst (pc := 1) (dK D_Law_form 1 rfl) ?_
  refine g_aloadn (pc := 2) (i0 := 0) (j := 0) (dK D_Law_form 2 rfl) rfl rfl ?_
  refine g_iloadn (pc := 3) (i0 := 1) (j := 1) (dK D_Law_form 3 rfl) rfl rfl ?_
  refine g_iloadn (pc := 4) (i0 := 2) (j := 2) (dK D_Law_form 4 rfl) rfl rfl ?_
  refine bnE h (fun p1 e_p1 h => ?_)
  refine vg_cVX hfl (pc := 5) (As := [V a1, V a2]) (rest := [V 0, .ref c3]) (mc' := 1) (ms' := 6) (dK D_Law_form 5 rfl) K_Law_40 (fitK rfl) (ltK rfl) hc0 rfl (leK rfl) (leK rfl) (leK rfl) (tf_FP_form hfl hc0 ha1 ha2 e_p1) (kxT hfl (fun he3 => kxI hfl (fun h_p1 => ?_)) (fun he3 => ?_))
  · replace h := ifP h he3
    refine vg_i2l (pc := 8) (dK D_Law_form 6 rfl) h_p1 ?_
    refine nmE h (fun S2 e_S2 h => ?_)
    refine vg_lastore (pc := 9) (z := p1.2) (dK D_Law_form 7 rfl) hc3 rfl ⟨by decide, by decide⟩ rfl e_S2 ?_
    refine g_goto (pc := 10) (tgt := 17) (dK D_Law_form 8 rfl) rfl ?_
    refine vg_iconst (pc := 17) (dK D_Law_form 12 rfl) ?_
    exact vg_iretI (pc := 18) (r := 0) (dK D_Law_form 13 rfl) rfl (leK rfl) (leK rfl) (xf hfl) (by obtain rfl := Option.some.inj h; exact ⟨rfl, (inRk rfl), rfl⟩)
  · replace h := ifN h he3
    by_cases hq4 : p1.1 = 1
    · have h := ifP h hq4
      rw [hq4]
      exact ⟨_, CT_Law_form_5_1, (by obtain rfl := Option.some.inj h; exact ⟨rfl, (inRk rfl), rfl⟩)⟩
    · replace h := ifN h hq4
      exact nomatch h
def lb_FP_pageOf_10 (c0 : Nat) (a1 : Int) (a2 : Int) (S : St) (go : Int × Int → Option ((Int) ⊕ (Unit))) (a3 : Int) (a4 : Int) : Option ((Int) ⊕ (Unit)) := if (g S (tgt c0 3) 1) < a4 then (some (.inr ())) else (if 0 ≤ a4 ∧ a4 < 65 then (if (g S (tgt (tgt c0 3) 3) a4.toNat) = a1 then (if a3 = a2 then (some (.inl a4)) else (nm (wr (a3 + 1)) fun v4 => nm (wr (a4 + 1)) fun v5 => go (v4, v5))) else (nm (wr (a4 + 1)) fun v3 => go (a3, v3))) else none)
def lo_FP_pageOf_10 (c0 : Nat) (a1 : Int) (a2 : Int) (S : St) : Nat → Int × Int → Option ((Int) ⊕ (Unit)) := lp fun go p => lb_FP_pageOf_10 c0 a1 a2 S go p.1 p.2
theorem tl_FP_pageOf_10 {E : EV} {X : XT} (hfl : X.2.2.2 = false) {c0 : Nat} (hc0 : HC X 10 c0) {a1 : Int} (ha1 : inR a1) {a2 : Int} (ha2 : inR a2) {S : St} {K : RK → PS → Prop} {q : (Int) ⊕ (Unit)} (hx : ∀ p, q = .inr p → Go E M_FP_pageOf 1 6 53 [] [] (WX X S) 1 6 K) (hr : ∀ p, q = .inl p → inR p → K (.inl (some (V p))) (WX X S)) : ∀ n a, lo_FP_pageOf_10 c0 a1 a2 S n a = some q → inR a.1 → inR a.2 → Go E M_FP_pageOf 1 6 10 [(0, .ref c0), (1, V a1), (2, V a2), (3, V a.1), (4, V a.2)] [] (WX X S) 1 6 K := by
  refine lp_ind (P := fun a : Int × Int => inR a.1 → inR a.2 → Go E M_FP_pageOf 1 6 10 [(0, .ref c0), (1, V a1), (2, V a2), (3, V a.1), (4, V a.2)] [] (WX X S) 1 6 K) (fun go ih a h => ?_)
  obtain ⟨a3, a4⟩ := a
  intro ha3 ha4
  show Go E M_FP_pageOf 1 6 10 [(0, .ref c0), (1, V a1), (2, V a2), (3, V a3), (4, V a4)] [] (WX X S) 1 6 K
  replace h : lb_FP_pageOf_10 c0 a1 a2 S go a3 a4 = some q := h
  unfold lb_FP_pageOf_10 at h
  refine g_iload (pc := 10) (j := 4) (dK D_FP_pageOf 7 rfl) rfl ?_
  refine g_aloadn (pc := 12) (i0 := 0) (j := 0) (dK D_FP_pageOf 8 rfl) rfl rfl ?_
  refine vg_getO (pc := 13) (ci := 10) (f := 3) (dK D_FP_pageOf 9 rfl) q_425 hc0 (ltK rfl) (ltK rfl) rfl ?_
  refine vg_getI (pc := 16) (ci := 4) (f := 1) (dK D_FP_pageOf 10 rfl) q_296 (hw_10_3 hc0) (ltK rfl) (ltK rfl) rfl ?_
  refine vg_icmp_gt (pc := 19) (t := 53) (dK D_FP_pageOf 11 rfl) rfl ha4 (g_in _ _ _) (fun hc8 => ?_) (fun hc8 => ?_)
  · replace h := ifP h hc8
    refine gL_weak (ls' := []) sbn ?_
    exact hx _ (Option.some.inj h).symm 
  · replace h := ifN h hc8
    refine g_aloadn (pc := 22) (i0 := 0) (j := 0) (dK D_FP_pageOf 12 rfl) rfl rfl ?_
    refine vg_getO (pc := 23) (ci := 10) (f := 3) (dK D_FP_pageOf 13 rfl) q_425 hc0 (ltK rfl) (ltK rfl) rfl ?_
    refine vg_getA (pc := 26) (ci := 4) (f := 3) (dK D_FP_pageOf 14 rfl) q_303 (hw_10_3 hc0) (ltK rfl) (ltK rfl) rfl ?_
    refine g_iload (pc := 29) (j := 4) (dK D_FP_pageOf 15 rfl) rfl ?_
    refine gdE h (fun hi2 h => ?_)
    refine vg_iaload (pc := 31) (j := a4.toNat) (dK D_FP_pageOf 16 rfl) (hw_4_3 (hw_10_3 hc0)) rfl hi2 rfl ?_
    refine g_iloadn (pc := 32) (i0 := 1) (j := 1) (dK D_FP_pageOf 17 rfl) rfl rfl ?_
    refine vg_icmp_ne (pc := 33) (t := 47) (dK D_FP_pageOf 18 rfl) rfl (g_in _ _ _) ha1 (fun hc7 => ?_) (fun hc7 => ?_)
    · replace h := ifN h hc7
      refine nmE h (fun v3 e_v3 h => ?_)
      refine vg_iinc (pc := 47) (j := 4) (a := a4) (z := 1) (ls2 := [(4, V v3), (0, .ref c0), (1, V a1), (2, V a2), (3, V a3)]) (dK D_FP_pageOf 25 rfl) rfl e_v3 (ltK rfl) rfl ?_
      refine g_goto (pc := 50) (tgt := 10) (dK D_FP_pageOf 26 rfl) rfl ?_
      refine gL_weak (ls' := [(0, .ref c0), (1, V a1), (2, V a2), (3, V a3), (4, V v3)]) (sbc 1 rfl (sbc 2 rfl (sbc 3 rfl (sbc 4 rfl (sbc 0 rfl sbn))))) ?_
      replace h := ih _ h
      exact h ha3 (Vn_in e_v3)
    · replace h := ifP h hc7
      refine g_iloadn (pc := 36) (i0 := 3) (j := 3) (dK D_FP_pageOf 19 rfl) rfl rfl ?_
      refine g_iloadn (pc := 37) (i0 := 2) (j := 2) (dK D_FP_pageOf 20 rfl) rfl rfl ?_
      refine vg_icmp_ne (pc := 38) (t := 44) (dK D_FP_pageOf 21 rfl) rfl ha3 ha2 (fun hc6 => ?_) (fun hc6 => ?_)
      · replace h := ifN h hc6
        refine nmE h (fun v4 e_v4 h => ?_)
        refine vg_iinc (pc := 44) (j := 3) (a := a3) (z := 1) (ls2 := [(3, V v4), (0, .ref c0), (1, V a1), (2, V a2), (4, V a4)]) (dK D_FP_pageOf 24 rfl) rfl e_v4 (ltK rfl) rfl ?_
        refine nmE h (fun v5 e_v5 h => ?_)
        refine vg_iinc (pc := 47) (j := 4) (a := a4) (z := 1) (ls2 := [(4, V v5), (3, V v4), (0, .ref c0), (1, V a1), (2, V a2)]) (dK D_FP_pageOf 25 rfl) rfl e_v5 (ltK rfl) rfl ?_
        refine g_goto (pc := 50) (tgt := 10) (dK D_FP_pageOf 26 rfl) rfl ?_
        refine gL_weak (ls' := [(0, .ref c0), (1, V a1), (2, V a2), (3, V v4), (4, V v5)]) (sbc 2 rfl (sbc 3 rfl (sbc 4 rfl (sbc 1 rfl (sbc 0 rfl sbn))))) ?_
        replace h := ih _ h
        exact h (Vn_in e_v4) (Vn_in e_v5)
      · replace h := ifP h hc6
        refine g_iload (pc := 41) (j := 4) (dK D_FP_pageOf 22 rfl) rfl ?_
        exact vg_iretI (pc := 43) (r := a4) (dK D_FP_pageOf 23 rfl) rfl (leK rfl) (leK rfl) (xf hfl) (hr _ (Option.some.inj h).symm ha4)
def fn_FP_pageOf (c0 : Nat) (a1 : Int) (a2 : Int) (S : St) : Option (Nat × Int) := bnO (fn_FP_needForm c0 a1 S) fun p1 => if p1 = 0 then (bnS (lo_FP_pageOf_10 c0 a1 a2 S FU (0, 1)) (fun p10 => some (0, p10)) fun p9 => some (0, (-1))) else (some (p1, 0))
theorem tf_FP_pageOf {E : EV} {X : XT} (hfl : X.2.2.2 = false) {c0 : Nat} (hc0 : HC X 10 c0) {a1 : Int} (ha1 : inR a1) {a2 : Int} (ha2 : inR a2) {S : St} {q : Nat × Int} (h : fn_FP_pageOf c0 a1 a2 S = some q) : Ev E M_FP_pageOf [.ref c0, V a1, V a2] (WX X S) 1 6 (KT X q.1 S (KI X q.2 S)) := by
  refine Ev.of pn_FP rfl (leK rfl) ?_
  show Go E M_FP_pageOf 1 6 0 [(0, .ref c0), (1, V a1), (2, V a2)] [] (WX X S) 0 0 (KT X q.1 S (KI X q.2 S))
  unfold fn_FP_pageOf at h
  refine g_aloadn (pc := 0) (i0 := 0) (j := 0) (dK D_FP_pageOf 0 rfl) rfl rfl ?_
  refine g_iloadn (pc := 1) (i0 := 1) (j := 1) (dK D_FP_pageOf 1 rfl) rfl rfl ?_
  refine bnE h (fun p1 e_p1 h => ?_)
  refine vg_cV (pc := 2) (As := [V a1]) (rest := []) (mc' := 1) (ms' := 6) (dK D_FP_pageOf 2 rfl) K_FP_223 (fitK rfl) (ltK rfl) hc0 rfl (leK rfl) (leK rfl) (leK rfl) (tf_FP_needForm hfl hc0 ha1 e_p1) (kcT hfl (fun he11 => kcU ?_) (fun he11 => ⟨rfl, ?_⟩))
  · replace h := ifP h he11
    refine vg_iconst (pc := 5) (dK D_FP_pageOf 3 rfl) ?_
    refine g_istoren (pc := 6) (i0 := 3) (ls2 := [(3, V 0), (0, .ref c0), (1, V a1), (2, V a2)]) (dK D_FP_pageOf 4 rfl) rfl (ltK rfl) rfl ?_
    refine vg_iconst (pc := 7) (dK D_FP_pageOf 5 rfl) ?_
    refine g_istore (pc := 8) (ls2 := [(4, V 1), (3, V 0), (0, .ref c0), (1, V a1), (2, V a2)]) (dK D_FP_pageOf 6 rfl) (ltK rfl) rfl ?_
    refine bnSE h (fun p10 e_p10 h => ?_) (fun p9 e_p9 h => ?_)
    · refine gL_weak (ls' := [(0, .ref c0), (1, V a1), (2, V a2), (3, V 0), (4, V 1)]) (sbc 2 rfl (sbc 3 rfl (sbc 4 rfl (sbc 1 rfl (sbc 0 rfl sbn))))) ?_
      refine tl_FP_pageOf_10 hfl hc0 ha1 ha2 (fun _ e => slr e) (fun p e hr_p10 => ?_) FU (0, 1) e_p10 (inRk rfl) (inRk rfl)
      have e := Sum.inl.inj e
      subst e
      exact (by obtain rfl := Option.some.inj h; exact KT_ok ⟨rfl, hr_p10, rfl⟩)
    · refine gL_weak (ls' := [(0, .ref c0), (1, V a1), (2, V a2), (3, V 0), (4, V 1)]) (sbc 2 rfl (sbc 3 rfl (sbc 4 rfl (sbc 1 rfl (sbc 0 rfl sbn))))) ?_
      refine tl_FP_pageOf_10 hfl hc0 ha1 ha2 (fun p e => ?_) (fun _ e => srl e) FU (0, 1) e_p9 (inRk rfl) (inRk rfl)
      have e := Sum.inr.inj e
      subst e
      refine vg_iconst (pc := 53) (dK D_FP_pageOf 27 rfl) ?_
      exact vg_iretI (pc := 54) (r := (-1)) (dK D_FP_pageOf 28 rfl) rfl (leK rfl) (leK rfl) (xf hfl) (by obtain rfl := Option.some.inj h; exact KT_ok ⟨rfl, (inRk rfl), rfl⟩)
  · replace h := ifN h he11
    obtain rfl := Option.some.inj h
    exact KT_thr he11
def fn_Law_pageOf (c0 : Nat) (a1 : Int) (a2 : Int) (c3 : Nat) (S : St) : Option (Int × St) := bnO (fn_FP_pageOf c0 a1 a2 S) fun p1 => if p1.1 = 0 then (nm (ul S c3 0 p1.2) fun S2 => some (0, S2)) else (if p1.1 = 1 then (some (1, S)) else none)
theorem tf_Law_pageOf {E : EV} {X : XT} (hfl : X.2.2.2 = false) {c0 : Nat} (hc0 : HC X 10 c0) {a1 : Int} (ha1 : inR a1) {a2 : Int} (ha2 : inR a2) {c3 : Nat} (hc3 : HA X 3 1 c3) {S : St} {q : Int × St} (h : fn_Law_pageOf c0 a1 a2 c3 S = some q) : EvH E M_Law_pageOf [.ref c0, V a1, V a2, .ref c3] (WX X S) 1 6 (KI X q.1 q.2) := by
  refine EvH.of pn_Law (leK rfl) ?_
  show Go E M_Law_pageOf 1 6 0 [(0, .ref c0), (1, V a1), (2, V a2), (3, .ref c3)] [] (WX X S) 0 0 (KI X q.1 q.2)
  unfold fn_Law_pageOf at h
  refine g_aloadn (pc := 0) (i0 := 3) (j := 3) (dK D_Law_pageOf 0 rfl) rfl rfl ?_
  refine vg_iconst (pc := 1) (dK D_Law_pageOf 1 rfl) ?_
  refine g_aloadn (pc := 2) (i0 := 0) (j := 0) (dK D_Law_pageOf 2 rfl) rfl rfl ?_
  refine g_iloadn (pc := 3) (i0 := 1) (j := 1) (dK D_Law_pageOf 3 rfl) rfl rfl ?_
  refine g_iloadn (pc := 4) (i0 := 2) (j := 2) (dK D_Law_pageOf 4 rfl) rfl rfl ?_
  refine bnE h (fun p1 e_p1 h => ?_)
  refine vg_cVX hfl (pc := 5) (As := [V a1, V a2]) (rest := [V 0, .ref c3]) (mc' := 1) (ms' := 6) (dK D_Law_pageOf 5 rfl) K_Law_43 (fitK rfl) (ltK rfl) hc0 rfl (leK rfl) (leK rfl) (leK rfl) (tf_FP_pageOf hfl hc0 ha1 ha2 e_p1) (kxT hfl (fun he3 => kxI hfl (fun h_p1 => ?_)) (fun he3 => ?_))
  · replace h := ifP h he3
    refine vg_i2l (pc := 8) (dK D_Law_pageOf 6 rfl) h_p1 ?_
    refine nmE h (fun S2 e_S2 h => ?_)
    refine vg_lastore (pc := 9) (z := p1.2) (dK D_Law_pageOf 7 rfl) hc3 rfl ⟨by decide, by decide⟩ rfl e_S2 ?_
    refine g_goto (pc := 10) (tgt := 17) (dK D_Law_pageOf 8 rfl) rfl ?_
    refine vg_iconst (pc := 17) (dK D_Law_pageOf 12 rfl) ?_
    exact vg_iretI (pc := 18) (r := 0) (dK D_Law_pageOf 13 rfl) rfl (leK rfl) (leK rfl) (xf hfl) (by obtain rfl := Option.some.inj h; exact ⟨rfl, (inRk rfl), rfl⟩)
  · replace h := ifN h he3
    by_cases hq4 : p1.1 = 1
    · have h := ifP h hq4
      rw [hq4]
      exact ⟨_, CT_Law_pageOf_5_1, (by obtain rfl := Option.some.inj h; exact ⟨rfl, (inRk rfl), rfl⟩)⟩
    · replace h := ifN h hq4
      exact nomatch h
def fn_FP_reason (c0 : Nat) (a1 : Int) (a2 : Int) (S : St) : Option (Nat × Int) := bnO (fn_FP_needAd c0 a1 S) fun p1 => if p1 = 0 then (bnO (fn_Plan_adReason (tgt c0 3) a1 a2 S) fun p2 => some (0, p2)) else (some (p1, 0))
theorem tf_FP_reason {E : EV} {X : XT} (hfl : X.2.2.2 = false) {c0 : Nat} (hc0 : HC X 10 c0) {a1 : Int} (ha1 : inR a1) {a2 : Int} (ha2 : inR a2) {S : St} {q : Nat × Int} (h : fn_FP_reason c0 a1 a2 S = some q) : Ev E M_FP_reason [.ref c0, V a1, V a2] (WX X S) 1 6 (KT X q.1 S (KI X q.2 S)) := by
  refine Ev.of pn_FP rfl (leK rfl) ?_
  show Go E M_FP_reason 1 6 0 [(0, .ref c0), (1, V a1), (2, V a2)] [] (WX X S) 0 0 (KT X q.1 S (KI X q.2 S))
  unfold fn_FP_reason at h
  refine g_aloadn (pc := 0) (i0 := 0) (j := 0) (dK D_FP_reason 0 rfl) rfl rfl ?_
  refine g_iloadn (pc := 1) (i0 := 1) (j := 1) (dK D_FP_reason 1 rfl) rfl rfl ?_
  refine bnE h (fun p1 e_p1 h => ?_)
  refine vg_cV (pc := 2) (As := [V a1]) (rest := []) (mc' := 1) (ms' := 6) (dK D_FP_reason 2 rfl) K_FP_162 (fitK rfl) (ltK rfl) hc0 rfl (leK rfl) (leK rfl) (leK rfl) (tf_FP_needAd hfl hc0 ha1 e_p1) (kcT hfl (fun he3 => kcU ?_) (fun he3 => ⟨rfl, ?_⟩))
  · replace h := ifP h he3
    refine g_aloadn (pc := 5) (i0 := 0) (j := 0) (dK D_FP_reason 3 rfl) rfl rfl ?_
    refine vg_getO (pc := 6) (ci := 10) (f := 3) (dK D_FP_reason 4 rfl) q_425 hc0 (ltK rfl) (ltK rfl) rfl ?_
    refine g_iloadn (pc := 9) (i0 := 1) (j := 1) (dK D_FP_reason 5 rfl) rfl rfl ?_
    refine g_iloadn (pc := 10) (i0 := 2) (j := 2) (dK D_FP_reason 6 rfl) rfl rfl ?_
    refine bnE h (fun p2 e_p2 h => ?_)
    refine vg_cV (pc := 11) (As := [V a1, V a2]) (rest := []) (mc' := 0) (ms' := 0) (dK D_FP_reason 7 rfl) K_FP_244 (fitK rfl) (ltK rfl) (hw_10_3 hc0) rfl (leK rfl) (leK rfl) (leK rfl) (tf_Plan_adReason (hw_10_3 hc0) ha1 ha2 e_p2) (kcI (fun h_p2 => ?_))
    exact vg_iretI (pc := 14) (r := p2) (dK D_FP_reason 8 rfl) rfl (leK rfl) (leK rfl) (xf hfl) (by obtain rfl := Option.some.inj h; exact KT_ok ⟨rfl, h_p2, rfl⟩)
  · replace h := ifN h he3
    obtain rfl := Option.some.inj h
    exact KT_thr he3
def fn_Law_reason (c0 : Nat) (a1 : Int) (a2 : Int) (c3 : Nat) (S : St) : Option (Int × St) := bnO (fn_FP_reason c0 a1 a2 S) fun p1 => if p1.1 = 0 then (nm (ul S c3 0 p1.2) fun S2 => some (0, S2)) else (if p1.1 = 1 then (some (1, S)) else none)
theorem tf_Law_reason {E : EV} {X : XT} (hfl : X.2.2.2 = false) {c0 : Nat} (hc0 : HC X 10 c0) {a1 : Int} (ha1 : inR a1) {a2 : Int} (ha2 : inR a2) {c3 : Nat} (hc3 : HA X 3 1 c3) {S : St} {q : Int × St} (h : fn_Law_reason c0 a1 a2 c3 S = some q) : EvH E M_Law_reason [.ref c0, V a1, V a2, .ref c3] (WX X S) 1 6 (KI X q.1 q.2) := by
  refine EvH.of pn_Law (leK rfl) ?_
  show Go E M_Law_reason 1 6 0 [(0, .ref c0), (1, V a1), (2, V a2), (3, .ref c3)] [] (WX X S) 0 0 (KI X q.1 q.2)
  unfold fn_Law_reason at h
  refine g_aloadn (pc := 0) (i0 := 3) (j := 3) (dK D_Law_reason 0 rfl) rfl rfl ?_
  refine vg_iconst (pc := 1) (dK D_Law_reason 1 rfl) ?_
  refine g_aloadn (pc := 2) (i0 := 0) (j := 0) (dK D_Law_reason 2 rfl) rfl rfl ?_
  refine g_iloadn (pc := 3) (i0 := 1) (j := 1) (dK D_Law_reason 3 rfl) rfl rfl ?_
  refine g_iloadn (pc := 4) (i0 := 2) (j := 2) (dK D_Law_reason 4 rfl) rfl rfl ?_
  refine bnE h (fun p1 e_p1 h => ?_)
  refine vg_cVX hfl (pc := 5) (As := [V a1, V a2]) (rest := [V 0, .ref c3]) (mc' := 1) (ms' := 6) (dK D_Law_reason 5 rfl) K_Law_46 (fitK rfl) (ltK rfl) hc0 rfl (leK rfl) (leK rfl) (leK rfl) (tf_FP_reason hfl hc0 ha1 ha2 e_p1) (kxT hfl (fun he3 => kxI hfl (fun h_p1 => ?_)) (fun he3 => ?_))
  · replace h := ifP h he3
    refine vg_i2l (pc := 8) (dK D_Law_reason 6 rfl) h_p1 ?_
    refine nmE h (fun S2 e_S2 h => ?_)
    refine vg_lastore (pc := 9) (z := p1.2) (dK D_Law_reason 7 rfl) hc3 rfl ⟨by decide, by decide⟩ rfl e_S2 ?_
    refine g_goto (pc := 10) (tgt := 17) (dK D_Law_reason 8 rfl) rfl ?_
    refine vg_iconst (pc := 17) (dK D_Law_reason 12 rfl) ?_
    exact vg_iretI (pc := 18) (r := 0) (dK D_Law_reason 13 rfl) rfl (leK rfl) (leK rfl) (xf hfl) (by obtain rfl := Option.some.inj h; exact ⟨rfl, (inRk rfl), rfl⟩)
  · replace h := ifN h he3
    by_cases hq4 : p1.1 = 1
    · have h := ifP h hq4
      rw [hq4]
      exact ⟨_, CT_Law_reason_5_1, (by obtain rfl := Option.some.inj h; exact ⟨rfl, (inRk rfl), rfl⟩)⟩
    · replace h := ifN h hq4
      exact nomatch h
def fn_FP_storyReason (c0 : Nat) (a1 : Int) (a2 : Int) (S : St) : Option (Nat × Int) := bnO (fn_FP_needStory c0 a1 S) fun p1 => if p1 = 0 then (bnO (fn_Plan_layReason (tgt c0 3) a1 a2 S) fun p2 => some (0, p2)) else (some (p1, 0))
theorem tf_FP_storyReason {E : EV} {X : XT} (hfl : X.2.2.2 = false) {c0 : Nat} (hc0 : HC X 10 c0) {a1 : Int} (ha1 : inR a1) {a2 : Int} (ha2 : inR a2) {S : St} {q : Nat × Int} (h : fn_FP_storyReason c0 a1 a2 S = some q) : Ev E M_FP_storyReason [.ref c0, V a1, V a2] (WX X S) 1 6 (KT X q.1 S (KI X q.2 S)) := by
  refine Ev.of pn_FP rfl (leK rfl) ?_
  show Go E M_FP_storyReason 1 6 0 [(0, .ref c0), (1, V a1), (2, V a2)] [] (WX X S) 0 0 (KT X q.1 S (KI X q.2 S))
  unfold fn_FP_storyReason at h
  refine g_aloadn (pc := 0) (i0 := 0) (j := 0) (dK D_FP_storyReason 0 rfl) rfl rfl ?_
  refine g_iloadn (pc := 1) (i0 := 1) (j := 1) (dK D_FP_storyReason 1 rfl) rfl rfl ?_
  refine bnE h (fun p1 e_p1 h => ?_)
  refine vg_cV (pc := 2) (As := [V a1]) (rest := []) (mc' := 1) (ms' := 6) (dK D_FP_storyReason 2 rfl) K_FP_192 (fitK rfl) (ltK rfl) hc0 rfl (leK rfl) (leK rfl) (leK rfl) (tf_FP_needStory hfl hc0 ha1 e_p1) (kcT hfl (fun he3 => kcU ?_) (fun he3 => ⟨rfl, ?_⟩))
  · replace h := ifP h he3
    refine g_aloadn (pc := 5) (i0 := 0) (j := 0) (dK D_FP_storyReason 3 rfl) rfl rfl ?_
    refine vg_getO (pc := 6) (ci := 10) (f := 3) (dK D_FP_storyReason 4 rfl) q_425 hc0 (ltK rfl) (ltK rfl) rfl ?_
    refine g_iloadn (pc := 9) (i0 := 1) (j := 1) (dK D_FP_storyReason 5 rfl) rfl rfl ?_
    refine g_iloadn (pc := 10) (i0 := 2) (j := 2) (dK D_FP_storyReason 6 rfl) rfl rfl ?_
    refine bnE h (fun p2 e_p2 h => ?_)
    refine vg_cV (pc := 11) (As := [V a1, V a2]) (rest := []) (mc' := 0) (ms' := 0) (dK D_FP_storyReason 7 rfl) K_FP_248 (fitK rfl) (ltK rfl) (hw_10_3 hc0) rfl (leK rfl) (leK rfl) (leK rfl) (tf_Plan_layReason (hw_10_3 hc0) ha1 ha2 e_p2) (kcI (fun h_p2 => ?_))
    exact vg_iretI (pc := 14) (r := p2) (dK D_FP_storyReason 8 rfl) rfl (leK rfl) (leK rfl) (xf hfl) (by obtain rfl := Option.some.inj h; exact KT_ok ⟨rfl, h_p2, rfl⟩)
  · replace h := ifN h he3
    obtain rfl := Option.some.inj h
    exact KT_thr he3
def fn_Law_storyReason (c0 : Nat) (a1 : Int) (a2 : Int) (c3 : Nat) (S : St) : Option (Int × St) := bnO (fn_FP_storyReason c0 a1 a2 S) fun p1 => if p1.1 = 0 then (nm (ul S c3 0 p1.2) fun S2 => some (0, S2)) else (if p1.1 = 1 then (some (1, S)) else none)
theorem tf_Law_storyReason {E : EV} {X : XT} (hfl : X.2.2.2 = false) {c0 : Nat} (hc0 : HC X 10 c0) {a1 : Int} (ha1 : inR a1) {a2 : Int} (ha2 : inR a2) {c3 : Nat} (hc3 : HA X 3 1 c3) {S : St} {q : Int × St} (h : fn_Law_storyReason c0 a1 a2 c3 S = some q) : EvH E M_Law_storyReason [.ref c0, V a1, V a2, .ref c3] (WX X S) 1 6 (KI X q.1 q.2) := by
  refine EvH.of pn_Law (leK rfl) ?_
  show Go E M_Law_storyReason 1 6 0 [(0, .ref c0), (1, V a1), (2, V a2), (3, .ref c3)] [] (WX X S) 0 0 (KI X q.1 q.2)
  unfold fn_Law_storyReason at h
  refine g_aloadn (pc := 0) (i0 := 3) (j := 3) (dK D_Law_storyReason 0 rfl) rfl rfl ?_
  refine vg_iconst (pc := 1) (dK D_Law_storyReason 1 rfl) ?_
  refine g_aloadn (pc := 2) (i0 := 0) (j := 0) (dK D_Law_storyReason 2 rfl) rfl rfl ?_
  refine g_iloadn (pc := 3) (i0 := 1) (j := 1) (dK D_Law_storyReason 3 rfl) rfl rfl ?_
  refine g_iloadn (pc := 4) (i0 := 2) (j := 2) (dK D_Law_storyReason 4 rfl) rfl rfl ?_
  refine bnE h (fun p1 e_p1 h => ?_)
  refine vg_cVX hfl (pc := 5) (As := [V a1, V a2]) (rest := [V 0, .ref c3]) (mc' := 1) (ms' := 6) (dK D_Law_storyReason 5 rfl) K_Law_49 (fitK rfl) (ltK rfl) hc0 rfl (leK rfl) (leK rfl) (leK rfl) (tf_FP_storyReason hfl hc0 ha1 ha2 e_p1) (kxT hfl (fun he3 => kxI hfl (fun h_p1 => ?_)) (fun he3 => ?_))
  · replace h := ifP h he3
    refine vg_i2l (pc := 8) (dK D_Law_storyReason 6 rfl) h_p1 ?_
    refine nmE h (fun S2 e_S2 h => ?_)
    refine vg_lastore (pc := 9) (z := p1.2) (dK D_Law_storyReason 7 rfl) hc3 rfl ⟨by decide, by decide⟩ rfl e_S2 ?_
    refine g_goto (pc := 10) (tgt := 17) (dK D_Law_storyReason 8 rfl) rfl ?_
    refine vg_iconst (pc := 17) (dK D_Law_storyReason 12 rfl) ?_
    exact vg_iretI (pc := 18) (r := 0) (dK D_Law_storyReason 13 rfl) rfl (leK rfl) (leK rfl) (xf hfl) (by obtain rfl := Option.some.inj h; exact ⟨rfl, (inRk rfl), rfl⟩)
  · replace h := ifN h he3
    by_cases hq4 : p1.1 = 1
    · have h := ifP h hq4
      rw [hq4]
      exact ⟨_, CT_Law_storyReason_5_1, (by obtain rfl := Option.some.inj h; exact ⟨rfl, (inRk rfl), rfl⟩)⟩
    · replace h := ifN h hq4
      exact nomatch h
def jf_FP_put_47 (c0 : Nat) (a1 : Int) (a2 : Int) (a3 : Int) (S : St) : Option (Nat × Int × St) := if a3 = 0 then (bnO (fn_History_keep (tgt c0 4) (tgt (tgt c0 3) 0) S) fun p3 => if 0 ≤ a1 ∧ a1 < 40 then (nm (u p3 (tgt (tgt (tgt (tgt c0 3) 0) 0) 6) a1.toNat a2) fun S5 => bnO (fn_Plan_recount (tgt c0 3) S5) fun p6 => some (0, a3, p6)) else none) else (some (0, a3, S))
theorem tj_FP_put_47 {E : EV} {X : XT} (hfl : X.2.2.2 = false) {c0 : Nat} (hc0 : HC X 10 c0) {a1 : Int} (ha1 : inR a1) {a2 : Int} (ha2 : inR a2) {a3 : Int} (ha3 : inR a3) {S : St} {q : Nat × Int × St} (h : jf_FP_put_47 c0 a1 a2 a3 S = some q) : Go E M_FP_put 1 6 47 [(0, .ref c0), (1, V a1), (2, V a2), (3, V a3)] [] (WX X S) 1 6 (KT X q.1 q.2.2 (KI X q.2.1 q.2.2)) := by
  unfold jf_FP_put_47 at h
  refine g_iloadn (pc := 47) (i0 := 3) (j := 3) (dK D_FP_put 25 rfl) rfl rfl ?_
  refine vg_if_ne (pc := 48) (t := 88) (dK D_FP_put 26 rfl) rfl ha3 (fun hc7 => ?_) (fun hc7 => ?_)
  · replace h := ifN h hc7
    refine g_iloadn (pc := 88) (i0 := 3) (j := 3) (dK D_FP_put 44 rfl) rfl rfl ?_
    exact vg_iretI (pc := 89) (r := a3) (dK D_FP_put 45 rfl) rfl (leK rfl) (leK rfl) (xf hfl) (by obtain rfl := Option.some.inj h; exact KT_ok ⟨rfl, ha3, rfl⟩)
  · replace h := ifP h hc7
    refine g_aloadn (pc := 51) (i0 := 0) (j := 0) (dK D_FP_put 27 rfl) rfl rfl ?_
    refine vg_getO (pc := 52) (ci := 10) (f := 4) (dK D_FP_put 28 rfl) q_426 hc0 (ltK rfl) (ltK rfl) rfl ?_
    refine g_aloadn (pc := 55) (i0 := 0) (j := 0) (dK D_FP_put 29 rfl) rfl rfl ?_
    refine vg_getO (pc := 56) (ci := 10) (f := 3) (dK D_FP_put 30 rfl) q_425 hc0 (ltK rfl) (ltK rfl) rfl ?_
    refine vg_getO (pc := 59) (ci := 4) (f := 0) (dK D_FP_put 31 rfl) q_292 (hw_10_3 hc0) (ltK rfl) (ltK rfl) rfl ?_
    refine bnE h (fun p3 e_p3 h => ?_)
    refine vg_cV (pc := 62) (As := [.ref (tgt (tgt c0 3) 0)]) (rest := []) (mc' := 0) (ms' := 0) (dK D_FP_put 32 rfl) K_FP_155 (fitK rfl) (ltK rfl) (hw_10_4 hc0) rfl (leK rfl) (leK rfl) (leK rfl) (tf_History_keep (hw_10_4 hc0) (hw_4_0 (hw_10_3 hc0)) e_p3) (kcU ?_)
    refine g_aloadn (pc := 65) (i0 := 0) (j := 0) (dK D_FP_put 33 rfl) rfl rfl ?_
    refine vg_getO (pc := 66) (ci := 10) (f := 3) (dK D_FP_put 34 rfl) q_425 hc0 (ltK rfl) (ltK rfl) rfl ?_
    refine vg_getO (pc := 69) (ci := 4) (f := 0) (dK D_FP_put 35 rfl) q_292 (hw_10_3 hc0) (ltK rfl) (ltK rfl) rfl ?_
    refine vg_getO (pc := 72) (ci := 8) (f := 0) (dK D_FP_put 36 rfl) q_224 (hw_4_0 (hw_10_3 hc0)) (ltK rfl) (ltK rfl) rfl ?_
    refine vg_getA (pc := 75) (ci := 0) (f := 6) (dK D_FP_put 37 rfl) q_103 (hw_8_0 (hw_4_0 (hw_10_3 hc0))) (ltK rfl) (ltK rfl) rfl ?_
    refine g_iloadn (pc := 78) (i0 := 1) (j := 1) (dK D_FP_put 38 rfl) rfl rfl ?_
    refine g_iloadn (pc := 79) (i0 := 2) (j := 2) (dK D_FP_put 39 rfl) rfl rfl ?_
    refine gdE h (fun hi4 h => ?_)
    refine nmE h (fun S5 e_S5 h => ?_)
    refine vg_iastore (pc := 80) (z := a2) (dK D_FP_put 40 rfl) (hw_0_6 (hw_8_0 (hw_4_0 (hw_10_3 hc0)))) rfl hi4 rfl e_S5 ?_
    refine g_aloadn (pc := 81) (i0 := 0) (j := 0) (dK D_FP_put 41 rfl) rfl rfl ?_
    refine vg_getO (pc := 82) (ci := 10) (f := 3) (dK D_FP_put 42 rfl) q_425 hc0 (ltK rfl) (ltK rfl) rfl ?_
    refine bnE h (fun p6 e_p6 h => ?_)
    refine vg_cV (pc := 85) (As := []) (rest := []) (mc' := 0) (ms' := 0) (dK D_FP_put 43 rfl) K_FP_254 (fitK rfl) (ltK rfl) (hw_10_3 hc0) rfl (leK rfl) (leK rfl) (leK rfl) (tf_Plan_recount (hw_10_3 hc0) e_p6) (kcU ?_)
    refine g_iloadn (pc := 88) (i0 := 3) (j := 3) (dK D_FP_put 44 rfl) rfl rfl ?_
    exact vg_iretI (pc := 89) (r := a3) (dK D_FP_put 45 rfl) rfl (leK rfl) (leK rfl) (xf hfl) (by obtain rfl := Option.some.inj h; exact KT_ok ⟨rfl, ha3, rfl⟩)
def fn_FP_put (c0 : Nat) (a1 : Int) (a2 : Int) (S : St) : Option (Nat × Int × St) := bnO (fn_FP_needAd c0 a1 S) fun p1 => if p1 = 0 then (bnO (fn_Plan_adReason (tgt c0 3) a1 a2 S) fun p2 => if p2 = 1 then (jf_FP_put_47 c0 a1 a2 p2 S) else (if 0 ≤ a1 ∧ a1 < 40 then (bnO (fn_Plan_isPrinted (tgt c0 3) (g S (tgt (tgt (tgt (tgt c0 3) 0) 0) 6) a1.toNat) S) fun p9 => if p9 = true then (jf_FP_put_47 c0 a1 a2 2 S) else (jf_FP_put_47 c0 a1 a2 p2 S)) else none)) else (some (p1, 0, S))
theorem tf_FP_put {E : EV} {X : XT} (hfl : X.2.2.2 = false) {c0 : Nat} (hc0 : HC X 10 c0) {a1 : Int} (ha1 : inR a1) {a2 : Int} (ha2 : inR a2) {S : St} {q : Nat × Int × St} (h : fn_FP_put c0 a1 a2 S = some q) : Ev E M_FP_put [.ref c0, V a1, V a2] (WX X S) 1 6 (KT X q.1 q.2.2 (KI X q.2.1 q.2.2)) := by
  refine Ev.of pn_FP rfl (leK rfl) ?_
  show Go E M_FP_put 1 6 0 [(0, .ref c0), (1, V a1), (2, V a2)] [] (WX X S) 0 0 (KT X q.1 q.2.2 (KI X q.2.1 q.2.2))
  unfold fn_FP_put at h
  refine g_aloadn (pc := 0) (i0 := 0) (j := 0) (dK D_FP_put 0 rfl) rfl rfl ?_
  refine g_iloadn (pc := 1) (i0 := 1) (j := 1) (dK D_FP_put 1 rfl) rfl rfl ?_
  refine bnE h (fun p1 e_p1 h => ?_)
  refine vg_cV (pc := 2) (As := [V a1]) (rest := []) (mc' := 1) (ms' := 6) (dK D_FP_put 2 rfl) K_FP_162 (fitK rfl) (ltK rfl) hc0 rfl (leK rfl) (leK rfl) (leK rfl) (tf_FP_needAd hfl hc0 ha1 e_p1) (kcT hfl (fun he12 => kcU ?_) (fun he12 => ⟨rfl, ?_⟩))
  · replace h := ifP h he12
    refine g_aloadn (pc := 5) (i0 := 0) (j := 0) (dK D_FP_put 3 rfl) rfl rfl ?_
    refine vg_getO (pc := 6) (ci := 10) (f := 3) (dK D_FP_put 4 rfl) q_425 hc0 (ltK rfl) (ltK rfl) rfl ?_
    refine g_iloadn (pc := 9) (i0 := 1) (j := 1) (dK D_FP_put 5 rfl) rfl rfl ?_
    refine g_iloadn (pc := 10) (i0 := 2) (j := 2) (dK D_FP_put 6 rfl) rfl rfl ?_
    refine bnE h (fun p2 e_p2 h => ?_)
    refine vg_cV (pc := 11) (As := [V a1, V a2]) (rest := []) (mc' := 0) (ms' := 0) (dK D_FP_put 7 rfl) K_FP_244 (fitK rfl) (ltK rfl) (hw_10_3 hc0) rfl (leK rfl) (leK rfl) (leK rfl) (tf_Plan_adReason (hw_10_3 hc0) ha1 ha2 e_p2) (kcI (fun h_p2 => ?_))
    refine g_istoren (pc := 14) (i0 := 3) (ls2 := [(3, V p2), (0, .ref c0), (1, V a1), (2, V a2)]) (dK D_FP_put 8 rfl) rfl (ltK rfl) rfl ?_
    refine g_iloadn (pc := 15) (i0 := 3) (j := 0) (dK D_FP_put 9 rfl) rfl rfl ?_
    refine vg_iconst (pc := 16) (dK D_FP_put 10 rfl) ?_
    refine vg_icmp_eq (pc := 17) (t := 47) (dK D_FP_put 11 rfl) rfl h_p2 (inRk rfl) (fun hc11 => ?_) (fun hc11 => ?_)
    · replace h := ifP h hc11
      refine gL_weak (ls' := [(0, .ref c0), (1, V a1), (2, V a2), (3, V p2)]) (sbc 1 rfl (sbc 2 rfl (sbc 3 rfl (sbc 0 rfl sbn)))) ?_
      exact tj_FP_put_47 hfl hc0 ha1 ha2 h_p2 h
    · replace h := ifN h hc11
      refine g_aloadn (pc := 20) (i0 := 0) (j := 1) (dK D_FP_put 12 rfl) rfl rfl ?_
      refine vg_getO (pc := 21) (ci := 10) (f := 3) (dK D_FP_put 13 rfl) q_425 hc0 (ltK rfl) (ltK rfl) rfl ?_
      refine g_aloadn (pc := 24) (i0 := 0) (j := 1) (dK D_FP_put 14 rfl) rfl rfl ?_
      refine vg_getO (pc := 25) (ci := 10) (f := 3) (dK D_FP_put 15 rfl) q_425 hc0 (ltK rfl) (ltK rfl) rfl ?_
      refine vg_getO (pc := 28) (ci := 4) (f := 0) (dK D_FP_put 16 rfl) q_292 (hw_10_3 hc0) (ltK rfl) (ltK rfl) rfl ?_
      refine vg_getO (pc := 31) (ci := 8) (f := 0) (dK D_FP_put 17 rfl) q_224 (hw_4_0 (hw_10_3 hc0)) (ltK rfl) (ltK rfl) rfl ?_
      refine vg_getA (pc := 34) (ci := 0) (f := 6) (dK D_FP_put 18 rfl) q_103 (hw_8_0 (hw_4_0 (hw_10_3 hc0))) (ltK rfl) (ltK rfl) rfl ?_
      refine g_iloadn (pc := 37) (i0 := 1) (j := 2) (dK D_FP_put 19 rfl) rfl rfl ?_
      refine gdE h (fun hi8 h => ?_)
      refine vg_iaload (pc := 38) (j := a1.toNat) (dK D_FP_put 20 rfl) (hw_0_6 (hw_8_0 (hw_4_0 (hw_10_3 hc0)))) rfl hi8 rfl ?_
      refine bnE h (fun p9 e_p9 h => ?_)
      refine vg_cV (pc := 39) (As := [V (g S (tgt (tgt (tgt (tgt c0 3) 0) 0) 6) a1.toNat)]) (rest := []) (mc' := 0) (ms' := 0) (dK D_FP_put 21 rfl) K_FP_251 (fitK rfl) (ltK rfl) (hw_10_3 hc0) rfl (leK rfl) (leK rfl) (leK rfl) (tf_Plan_isPrinted (hw_10_3 hc0) (g_in _ _ _) e_p9) (kcB ?_)
      refine vg_ifB_eq (pc := 42) (b := p9) (t := 47) (dK D_FP_put 22 rfl) rfl (fun hc10 => ?_) (fun hc10 => ?_)
      · replace h := ifP h hc10
        refine vg_iconst (pc := 45) (dK D_FP_put 23 rfl) ?_
        refine g_istoren (pc := 46) (i0 := 3) (ls2 := [(3, V 2), (0, .ref c0), (1, V a1), (2, V a2)]) (dK D_FP_put 24 rfl) rfl (ltK rfl) rfl ?_
        refine gL_weak (ls' := [(0, .ref c0), (1, V a1), (2, V a2), (3, V 2)]) (sbc 1 rfl (sbc 2 rfl (sbc 3 rfl (sbc 0 rfl sbn)))) ?_
        exact tj_FP_put_47 hfl hc0 ha1 ha2 (inRk rfl) h
      · replace h := ifN h hc10
        refine gL_weak (ls' := [(0, .ref c0), (1, V a1), (2, V a2), (3, V p2)]) (sbc 1 rfl (sbc 2 rfl (sbc 3 rfl (sbc 0 rfl sbn)))) ?_
        exact tj_FP_put_47 hfl hc0 ha1 ha2 h_p2 h
  · replace h := ifN h he12
    obtain rfl := Option.some.inj h
    exact KT_thr he12
def fn_Law_put (c0 : Nat) (a1 : Int) (a2 : Int) (c3 : Nat) (S : St) : Option (Int × St) := bnO (fn_FP_put c0 a1 a2 S) fun p1 => if p1.1 = 0 then (nm (ul p1.2.2 c3 0 p1.2.1) fun S2 => some (0, S2)) else (if p1.1 = 1 then (some (1, p1.2.2)) else none)
theorem tf_Law_put {E : EV} {X : XT} (hfl : X.2.2.2 = false) {c0 : Nat} (hc0 : HC X 10 c0) {a1 : Int} (ha1 : inR a1) {a2 : Int} (ha2 : inR a2) {c3 : Nat} (hc3 : HA X 3 1 c3) {S : St} {q : Int × St} (h : fn_Law_put c0 a1 a2 c3 S = some q) : EvH E M_Law_put [.ref c0, V a1, V a2, .ref c3] (WX X S) 1 6 (KI X q.1 q.2) := by
  refine EvH.of pn_Law (leK rfl) ?_
  show Go E M_Law_put 1 6 0 [(0, .ref c0), (1, V a1), (2, V a2), (3, .ref c3)] [] (WX X S) 0 0 (KI X q.1 q.2)
  unfold fn_Law_put at h
  refine g_aloadn (pc := 0) (i0 := 3) (j := 3) (dK D_Law_put 0 rfl) rfl rfl ?_
  refine vg_iconst (pc := 1) (dK D_Law_put 1 rfl) ?_
  refine g_aloadn (pc := 2) (i0 := 0) (j := 0) (dK D_Law_put 2 rfl) rfl rfl ?_
  refine g_iloadn (pc := 3) (i0 := 1) (j := 1) (dK D_Law_put 3 rfl) rfl rfl ?_
  refine g_iloadn (pc := 4) (i0 := 2) (j := 2) (dK D_Law_put 4 rfl) rfl rfl ?_
  refine bnE h (fun p1 e_p1 h => ?_)
  refine vg_cVX hfl (pc := 5) (As := [V a1, V a2]) (rest := [V 0, .ref c3]) (mc' := 1) (ms' := 6) (dK D_Law_put 5 rfl) K_Law_52 (fitK rfl) (ltK rfl) hc0 rfl (leK rfl) (leK rfl) (leK rfl) (tf_FP_put hfl hc0 ha1 ha2 e_p1) (kxT hfl (fun he3 => kxI hfl (fun h_p1 => ?_)) (fun he3 => ?_))
  · replace h := ifP h he3
    refine vg_i2l (pc := 8) (dK D_Law_put 6 rfl) h_p1 ?_
    refine nmE h (fun S2 e_S2 h => ?_)
    refine vg_lastore (pc := 9) (z := p1.2.1) (dK D_Law_put 7 rfl) hc3 rfl ⟨by decide, by decide⟩ rfl e_S2 ?_
    refine g_goto (pc := 10) (tgt := 17) (dK D_Law_put 8 rfl) rfl ?_
    refine vg_iconst (pc := 17) (dK D_Law_put 12 rfl) ?_
    exact vg_iretI (pc := 18) (r := 0) (dK D_Law_put 13 rfl) rfl (leK rfl) (leK rfl) (xf hfl) (by obtain rfl := Option.some.inj h; exact ⟨rfl, (inRk rfl), rfl⟩)
  · replace h := ifN h he3
    by_cases hq4 : p1.1 = 1
    · have h := ifP h hq4
      rw [hq4]
      exact ⟨_, CT_Law_put_5_1, (by obtain rfl := Option.some.inj h; exact ⟨rfl, (inRk rfl), rfl⟩)⟩
    · replace h := ifN h hq4
      exact nomatch h
def fn_Plan_storyIsPrinted (c0 : Nat) (a1 : Int) (S : St) : Option (Bool) := bnO (fn_Plan_storyIsOnFormThat c0 a1 1 S) fun p1 => some p1
theorem tf_Plan_storyIsPrinted {E : EV} {X : XT} {c0 : Nat} (hc0 : HC X 4 c0) {a1 : Int} (ha1 : inR a1) {S : St} {q : Bool} (h : fn_Plan_storyIsPrinted c0 a1 S = some q) : Ev E M_Plan_storyIsPrinted [.ref c0, V a1] (WX X S) 0 0 (KB X q S) := by
  refine Ev.of pn_Plan rfl (leK rfl) ?_
  show Go E M_Plan_storyIsPrinted 0 0 0 [(0, .ref c0), (1, V a1)] [] (WX X S) 0 0 (KB X q S)
  unfold fn_Plan_storyIsPrinted at h
  refine g_aloadn (pc := 0) (i0 := 0) (j := 0) (dK D_Plan_storyIsPrinted 0 rfl) rfl rfl ?_
  refine g_iloadn (pc := 1) (i0 := 1) (j := 1) (dK D_Plan_storyIsPrinted 1 rfl) rfl rfl ?_
  refine vg_iconst (pc := 2) (dK D_Plan_storyIsPrinted 2 rfl) ?_
  refine bnE h (fun p1 e_p1 h => ?_)
  refine vg_cV (pc := 3) (As := [V a1, V 1]) (rest := []) (mc' := 0) (ms' := 0) (dK D_Plan_storyIsPrinted 3 rfl) K_Plan_177 (fitK rfl) (ltK rfl) hc0 rfl (leK rfl) (leK rfl) (leK rfl) (tf_Plan_storyIsOnFormThat hc0 ha1 (inRk rfl) e_p1) (kcB ?_)
  exact vg_iretB (pc := 6) (b := p1) (dK D_Plan_storyIsPrinted 4 rfl) rfl (leK rfl) (leK rfl) (fun _ => rfl) (by obtain rfl := Option.some.inj h; exact ⟨rfl, rfl⟩)
def jf_FP_lay_33 (c0 : Nat) (a1 : Int) (a2 : Int) (a3 : Int) (S : St) : Option (Nat × Int × St) := if a3 = 0 then (bnO (fn_History_keep (tgt c0 4) (tgt (tgt c0 3) 0) S) fun p3 => if 0 ≤ a1 ∧ a1 < 10 then (nm (u p3 (tgt (tgt (tgt (tgt c0 3) 0) 1) 4) a1.toNat a2) fun S5 => bnO (fn_Plan_recount (tgt c0 3) S5) fun p6 => some (0, a3, p6)) else none) else (some (0, a3, S))
theorem tj_FP_lay_33 {E : EV} {X : XT} (hfl : X.2.2.2 = false) {c0 : Nat} (hc0 : HC X 10 c0) {a1 : Int} (ha1 : inR a1) {a2 : Int} (ha2 : inR a2) {a3 : Int} (ha3 : inR a3) {S : St} {q : Nat × Int × St} (h : jf_FP_lay_33 c0 a1 a2 a3 S = some q) : Go E M_FP_lay 1 6 33 [(0, .ref c0), (1, V a1), (2, V a2), (3, V a3)] [] (WX X S) 1 6 (KT X q.1 q.2.2 (KI X q.2.1 q.2.2)) := by
  unfold jf_FP_lay_33 at h
  refine g_iloadn (pc := 33) (i0 := 3) (j := 3) (dK D_FP_lay 19 rfl) rfl rfl ?_
  refine vg_if_ne (pc := 34) (t := 74) (dK D_FP_lay 20 rfl) rfl ha3 (fun hc7 => ?_) (fun hc7 => ?_)
  · replace h := ifN h hc7
    refine g_iloadn (pc := 74) (i0 := 3) (j := 3) (dK D_FP_lay 38 rfl) rfl rfl ?_
    exact vg_iretI (pc := 75) (r := a3) (dK D_FP_lay 39 rfl) rfl (leK rfl) (leK rfl) (xf hfl) (by obtain rfl := Option.some.inj h; exact KT_ok ⟨rfl, ha3, rfl⟩)
  · replace h := ifP h hc7
    refine g_aloadn (pc := 37) (i0 := 0) (j := 0) (dK D_FP_lay 21 rfl) rfl rfl ?_
    refine vg_getO (pc := 38) (ci := 10) (f := 4) (dK D_FP_lay 22 rfl) q_426 hc0 (ltK rfl) (ltK rfl) rfl ?_
    refine g_aloadn (pc := 41) (i0 := 0) (j := 0) (dK D_FP_lay 23 rfl) rfl rfl ?_
    refine vg_getO (pc := 42) (ci := 10) (f := 3) (dK D_FP_lay 24 rfl) q_425 hc0 (ltK rfl) (ltK rfl) rfl ?_
    refine vg_getO (pc := 45) (ci := 4) (f := 0) (dK D_FP_lay 25 rfl) q_292 (hw_10_3 hc0) (ltK rfl) (ltK rfl) rfl ?_
    refine bnE h (fun p3 e_p3 h => ?_)
    refine vg_cV (pc := 48) (As := [.ref (tgt (tgt c0 3) 0)]) (rest := []) (mc' := 0) (ms' := 0) (dK D_FP_lay 26 rfl) K_FP_155 (fitK rfl) (ltK rfl) (hw_10_4 hc0) rfl (leK rfl) (leK rfl) (leK rfl) (tf_History_keep (hw_10_4 hc0) (hw_4_0 (hw_10_3 hc0)) e_p3) (kcU ?_)
    refine g_aloadn (pc := 51) (i0 := 0) (j := 0) (dK D_FP_lay 27 rfl) rfl rfl ?_
    refine vg_getO (pc := 52) (ci := 10) (f := 3) (dK D_FP_lay 28 rfl) q_425 hc0 (ltK rfl) (ltK rfl) rfl ?_
    refine vg_getO (pc := 55) (ci := 4) (f := 0) (dK D_FP_lay 29 rfl) q_292 (hw_10_3 hc0) (ltK rfl) (ltK rfl) rfl ?_
    refine vg_getO (pc := 58) (ci := 8) (f := 1) (dK D_FP_lay 30 rfl) q_229 (hw_4_0 (hw_10_3 hc0)) (ltK rfl) (ltK rfl) rfl ?_
    refine vg_getA (pc := 61) (ci := 9) (f := 4) (dK D_FP_lay 31 rfl) q_151 (hw_8_1 (hw_4_0 (hw_10_3 hc0))) (ltK rfl) (ltK rfl) rfl ?_
    refine g_iloadn (pc := 64) (i0 := 1) (j := 1) (dK D_FP_lay 32 rfl) rfl rfl ?_
    refine g_iloadn (pc := 65) (i0 := 2) (j := 2) (dK D_FP_lay 33 rfl) rfl rfl ?_
    refine gdE h (fun hi4 h => ?_)
    refine nmE h (fun S5 e_S5 h => ?_)
    refine vg_iastore (pc := 66) (z := a2) (dK D_FP_lay 34 rfl) (hw_9_4 (hw_8_1 (hw_4_0 (hw_10_3 hc0)))) rfl hi4 rfl e_S5 ?_
    refine g_aloadn (pc := 67) (i0 := 0) (j := 0) (dK D_FP_lay 35 rfl) rfl rfl ?_
    refine vg_getO (pc := 68) (ci := 10) (f := 3) (dK D_FP_lay 36 rfl) q_425 hc0 (ltK rfl) (ltK rfl) rfl ?_
    refine bnE h (fun p6 e_p6 h => ?_)
    refine vg_cV (pc := 71) (As := []) (rest := []) (mc' := 0) (ms' := 0) (dK D_FP_lay 37 rfl) K_FP_254 (fitK rfl) (ltK rfl) (hw_10_3 hc0) rfl (leK rfl) (leK rfl) (leK rfl) (tf_Plan_recount (hw_10_3 hc0) e_p6) (kcU ?_)
    refine g_iloadn (pc := 74) (i0 := 3) (j := 3) (dK D_FP_lay 38 rfl) rfl rfl ?_
    exact vg_iretI (pc := 75) (r := a3) (dK D_FP_lay 39 rfl) rfl (leK rfl) (leK rfl) (xf hfl) (by obtain rfl := Option.some.inj h; exact KT_ok ⟨rfl, ha3, rfl⟩)
def fn_FP_lay (c0 : Nat) (a1 : Int) (a2 : Int) (S : St) : Option (Nat × Int × St) := bnO (fn_FP_needStory c0 a1 S) fun p1 => if p1 = 0 then (bnO (fn_Plan_layReason (tgt c0 3) a1 a2 S) fun p2 => if p2 = 1 then (jf_FP_lay_33 c0 a1 a2 p2 S) else (bnO (fn_Plan_storyIsPrinted (tgt c0 3) a1 S) fun p8 => if p8 = true then (jf_FP_lay_33 c0 a1 a2 2 S) else (jf_FP_lay_33 c0 a1 a2 p2 S))) else (some (p1, 0, S))
theorem tf_FP_lay {E : EV} {X : XT} (hfl : X.2.2.2 = false) {c0 : Nat} (hc0 : HC X 10 c0) {a1 : Int} (ha1 : inR a1) {a2 : Int} (ha2 : inR a2) {S : St} {q : Nat × Int × St} (h : fn_FP_lay c0 a1 a2 S = some q) : Ev E M_FP_lay [.ref c0, V a1, V a2] (WX X S) 1 6 (KT X q.1 q.2.2 (KI X q.2.1 q.2.2)) := by
  refine Ev.of pn_FP rfl (leK rfl) ?_
  show Go E M_FP_lay 1 6 0 [(0, .ref c0), (1, V a1), (2, V a2)] [] (WX X S) 0 0 (KT X q.1 q.2.2 (KI X q.2.1 q.2.2))
  unfold fn_FP_lay at h
  refine g_aloadn (pc := 0) (i0 := 0) (j := 0) (dK D_FP_lay 0 rfl) rfl rfl ?_
  refine g_iloadn (pc := 1) (i0 := 1) (j := 1) (dK D_FP_lay 1 rfl) rfl rfl ?_
  refine bnE h (fun p1 e_p1 h => ?_)
  refine vg_cV (pc := 2) (As := [V a1]) (rest := []) (mc' := 1) (ms' := 6) (dK D_FP_lay 2 rfl) K_FP_192 (fitK rfl) (ltK rfl) hc0 rfl (leK rfl) (leK rfl) (leK rfl) (tf_FP_needStory hfl hc0 ha1 e_p1) (kcT hfl (fun he11 => kcU ?_) (fun he11 => ⟨rfl, ?_⟩))
  · replace h := ifP h he11
    refine g_aloadn (pc := 5) (i0 := 0) (j := 0) (dK D_FP_lay 3 rfl) rfl rfl ?_
    refine vg_getO (pc := 6) (ci := 10) (f := 3) (dK D_FP_lay 4 rfl) q_425 hc0 (ltK rfl) (ltK rfl) rfl ?_
    refine g_iloadn (pc := 9) (i0 := 1) (j := 1) (dK D_FP_lay 5 rfl) rfl rfl ?_
    refine g_iloadn (pc := 10) (i0 := 2) (j := 2) (dK D_FP_lay 6 rfl) rfl rfl ?_
    refine bnE h (fun p2 e_p2 h => ?_)
    refine vg_cV (pc := 11) (As := [V a1, V a2]) (rest := []) (mc' := 0) (ms' := 0) (dK D_FP_lay 7 rfl) K_FP_248 (fitK rfl) (ltK rfl) (hw_10_3 hc0) rfl (leK rfl) (leK rfl) (leK rfl) (tf_Plan_layReason (hw_10_3 hc0) ha1 ha2 e_p2) (kcI (fun h_p2 => ?_))
    refine g_istoren (pc := 14) (i0 := 3) (ls2 := [(3, V p2), (0, .ref c0), (1, V a1), (2, V a2)]) (dK D_FP_lay 8 rfl) rfl (ltK rfl) rfl ?_
    refine g_iloadn (pc := 15) (i0 := 3) (j := 0) (dK D_FP_lay 9 rfl) rfl rfl ?_
    refine vg_iconst (pc := 16) (dK D_FP_lay 10 rfl) ?_
    refine vg_icmp_eq (pc := 17) (t := 33) (dK D_FP_lay 11 rfl) rfl h_p2 (inRk rfl) (fun hc10 => ?_) (fun hc10 => ?_)
    · replace h := ifP h hc10
      refine gL_weak (ls' := [(0, .ref c0), (1, V a1), (2, V a2), (3, V p2)]) (sbc 1 rfl (sbc 2 rfl (sbc 3 rfl (sbc 0 rfl sbn)))) ?_
      exact tj_FP_lay_33 hfl hc0 ha1 ha2 h_p2 h
    · replace h := ifN h hc10
      refine g_aloadn (pc := 20) (i0 := 0) (j := 1) (dK D_FP_lay 12 rfl) rfl rfl ?_
      refine vg_getO (pc := 21) (ci := 10) (f := 3) (dK D_FP_lay 13 rfl) q_425 hc0 (ltK rfl) (ltK rfl) rfl ?_
      refine g_iloadn (pc := 24) (i0 := 1) (j := 2) (dK D_FP_lay 14 rfl) rfl rfl ?_
      refine bnE h (fun p8 e_p8 h => ?_)
      refine vg_cV (pc := 25) (As := [V a1]) (rest := []) (mc' := 0) (ms' := 0) (dK D_FP_lay 15 rfl) K_FP_257 (fitK rfl) (ltK rfl) (hw_10_3 hc0) rfl (leK rfl) (leK rfl) (leK rfl) (tf_Plan_storyIsPrinted (hw_10_3 hc0) ha1 e_p8) (kcB ?_)
      refine vg_ifB_eq (pc := 28) (b := p8) (t := 33) (dK D_FP_lay 16 rfl) rfl (fun hc9 => ?_) (fun hc9 => ?_)
      · replace h := ifP h hc9
        refine vg_iconst (pc := 31) (dK D_FP_lay 17 rfl) ?_
        refine g_istoren (pc := 32) (i0 := 3) (ls2 := [(3, V 2), (0, .ref c0), (1, V a1), (2, V a2)]) (dK D_FP_lay 18 rfl) rfl (ltK rfl) rfl ?_
        refine gL_weak (ls' := [(0, .ref c0), (1, V a1), (2, V a2), (3, V 2)]) (sbc 1 rfl (sbc 2 rfl (sbc 3 rfl (sbc 0 rfl sbn)))) ?_
        exact tj_FP_lay_33 hfl hc0 ha1 ha2 (inRk rfl) h
      · replace h := ifN h hc9
        refine gL_weak (ls' := [(0, .ref c0), (1, V a1), (2, V a2), (3, V p2)]) (sbc 1 rfl (sbc 2 rfl (sbc 3 rfl (sbc 0 rfl sbn)))) ?_
        exact tj_FP_lay_33 hfl hc0 ha1 ha2 h_p2 h
  · replace h := ifN h he11
    obtain rfl := Option.some.inj h
    exact KT_thr he11
def fn_Law_lay (c0 : Nat) (a1 : Int) (a2 : Int) (c3 : Nat) (S : St) : Option (Int × St) := bnO (fn_FP_lay c0 a1 a2 S) fun p1 => if p1.1 = 0 then (nm (ul p1.2.2 c3 0 p1.2.1) fun S2 => some (0, S2)) else (if p1.1 = 1 then (some (1, p1.2.2)) else none)
theorem tf_Law_lay {E : EV} {X : XT} (hfl : X.2.2.2 = false) {c0 : Nat} (hc0 : HC X 10 c0) {a1 : Int} (ha1 : inR a1) {a2 : Int} (ha2 : inR a2) {c3 : Nat} (hc3 : HA X 3 1 c3) {S : St} {q : Int × St} (h : fn_Law_lay c0 a1 a2 c3 S = some q) : EvH E M_Law_lay [.ref c0, V a1, V a2, .ref c3] (WX X S) 1 6 (KI X q.1 q.2) := by
  refine EvH.of pn_Law (leK rfl) ?_
  show Go E M_Law_lay 1 6 0 [(0, .ref c0), (1, V a1), (2, V a2), (3, .ref c3)] [] (WX X S) 0 0 (KI X q.1 q.2)
  unfold fn_Law_lay at h
  refine g_aloadn (pc := 0) (i0 := 3) (j := 3) (dK D_Law_lay 0 rfl) rfl rfl ?_
  refine vg_iconst (pc := 1) (dK D_Law_lay 1 rfl) ?_
  refine g_aloadn (pc := 2) (i0 := 0) (j := 0) (dK D_Law_lay 2 rfl) rfl rfl ?_
  refine g_iloadn (pc := 3) (i0 := 1) (j := 1) (dK D_Law_lay 3 rfl) rfl rfl ?_
  refine g_iloadn (pc := 4) (i0 := 2) (j := 2) (dK D_Law_lay 4 rfl) rfl rfl ?_
  refine bnE h (fun p1 e_p1 h => ?_)
  refine vg_cVX hfl (pc := 5) (As := [V a1, V a2]) (rest := [V 0, .ref c3]) (mc' := 1) (ms' := 6) (dK D_Law_lay 5 rfl) K_Law_55 (fitK rfl) (ltK rfl) hc0 rfl (leK rfl) (leK rfl) (leK rfl) (tf_FP_lay hfl hc0 ha1 ha2 e_p1) (kxT hfl (fun he3 => kxI hfl (fun h_p1 => ?_)) (fun he3 => ?_))
  · replace h := ifP h he3
    refine vg_i2l (pc := 8) (dK D_Law_lay 6 rfl) h_p1 ?_
    refine nmE h (fun S2 e_S2 h => ?_)
    refine vg_lastore (pc := 9) (z := p1.2.1) (dK D_Law_lay 7 rfl) hc3 rfl ⟨by decide, by decide⟩ rfl e_S2 ?_
    refine g_goto (pc := 10) (tgt := 17) (dK D_Law_lay 8 rfl) rfl ?_
    refine vg_iconst (pc := 17) (dK D_Law_lay 12 rfl) ?_
    exact vg_iretI (pc := 18) (r := 0) (dK D_Law_lay 13 rfl) rfl (leK rfl) (leK rfl) (xf hfl) (by obtain rfl := Option.some.inj h; exact ⟨rfl, (inRk rfl), rfl⟩)
  · replace h := ifN h he3
    by_cases hq4 : p1.1 = 1
    · have h := ifP h hq4
      rw [hq4]
      exact ⟨_, CT_Law_lay_5_1, (by obtain rfl := Option.some.inj h; exact ⟨rfl, (inRk rfl), rfl⟩)⟩
    · replace h := ifN h hq4
      exact nomatch h
def fn_FP_take (c0 : Nat) (a1 : Int) (S : St) : Option (Nat × Bool × St) := bnO (fn_FP_needAd c0 a1 S) fun p1 => if p1 = 0 then (if 0 ≤ a1 ∧ a1 < 40 then (if (g S (tgt (tgt (tgt (tgt c0 3) 0) 0) 6) a1.toNat) = 0 then (some (0, false, S)) else (bnO (fn_Plan_isPrinted (tgt c0 3) (g S (tgt (tgt (tgt (tgt c0 3) 0) 0) 6) a1.toNat) S) fun p3 => if p3 = true then (some (0, false, S)) else (bnO (fn_History_keep (tgt c0 4) (tgt (tgt c0 3) 0) S) fun p5 => nm (u p5 (tgt (tgt (tgt (tgt c0 3) 0) 0) 6) a1.toNat 0) fun S6 => bnO (fn_Plan_recount (tgt c0 3) S6) fun p7 => some (0, true, p7)))) else none) else (some (p1, false, S))
theorem tf_FP_take {E : EV} {X : XT} (hfl : X.2.2.2 = false) {c0 : Nat} (hc0 : HC X 10 c0) {a1 : Int} (ha1 : inR a1) {S : St} {q : Nat × Bool × St} (h : fn_FP_take c0 a1 S = some q) : Ev E M_FP_take [.ref c0, V a1] (WX X S) 1 6 (KT X q.1 q.2.2 (KB X q.2.1 q.2.2)) := by
  refine Ev.of pn_FP rfl (leK rfl) ?_
  show Go E M_FP_take 1 6 0 [(0, .ref c0), (1, V a1)] [] (WX X S) 0 0 (KT X q.1 q.2.2 (KB X q.2.1 q.2.2))
  unfold fn_FP_take at h
  refine g_aloadn (pc := 0) (i0 := 0) (j := 0) (dK D_FP_take 0 rfl) rfl rfl ?_
  refine g_iloadn (pc := 1) (i0 := 1) (j := 1) (dK D_FP_take 1 rfl) rfl rfl ?_
  refine bnE h (fun p1 e_p1 h => ?_)
  refine vg_cV (pc := 2) (As := [V a1]) (rest := []) (mc' := 1) (ms' := 6) (dK D_FP_take 2 rfl) K_FP_162 (fitK rfl) (ltK rfl) hc0 rfl (leK rfl) (leK rfl) (leK rfl) (tf_FP_needAd hfl hc0 ha1 e_p1) (kcT hfl (fun he9 => kcU ?_) (fun he9 => ⟨rfl, ?_⟩))
  · replace h := ifP h he9
    refine g_aloadn (pc := 5) (i0 := 0) (j := 0) (dK D_FP_take 3 rfl) rfl rfl ?_
    refine vg_getO (pc := 6) (ci := 10) (f := 3) (dK D_FP_take 4 rfl) q_425 hc0 (ltK rfl) (ltK rfl) rfl ?_
    refine vg_getO (pc := 9) (ci := 4) (f := 0) (dK D_FP_take 5 rfl) q_292 (hw_10_3 hc0) (ltK rfl) (ltK rfl) rfl ?_
    refine vg_getO (pc := 12) (ci := 8) (f := 0) (dK D_FP_take 6 rfl) q_224 (hw_4_0 (hw_10_3 hc0)) (ltK rfl) (ltK rfl) rfl ?_
    refine vg_getA (pc := 15) (ci := 0) (f := 6) (dK D_FP_take 7 rfl) q_103 (hw_8_0 (hw_4_0 (hw_10_3 hc0))) (ltK rfl) (ltK rfl) rfl ?_
    refine g_iloadn (pc := 18) (i0 := 1) (j := 1) (dK D_FP_take 8 rfl) rfl rfl ?_
    refine gdE h (fun hi2 h => ?_)
    refine vg_iaload (pc := 19) (j := a1.toNat) (dK D_FP_take 9 rfl) (hw_0_6 (hw_8_0 (hw_4_0 (hw_10_3 hc0)))) rfl hi2 rfl ?_
    refine g_istoren (pc := 20) (i0 := 2) (ls2 := [(2, V (g S (tgt (tgt (tgt (tgt c0 3) 0) 0) 6) a1.toNat)), (0, .ref c0), (1, V a1)]) (dK D_FP_take 10 rfl) rfl (ltK rfl) rfl ?_
    refine g_iloadn (pc := 21) (i0 := 2) (j := 0) (dK D_FP_take 11 rfl) rfl rfl ?_
    refine vg_if_eq (pc := 22) (t := 36) (dK D_FP_take 12 rfl) rfl (g_in _ _ _) (fun hc8 => ?_) (fun hc8 => ?_)
    · replace h := ifP h hc8
      refine vg_iconst (pc := 36) (dK D_FP_take 18 rfl) ?_
      exact vg_iretB (pc := 37) (b := false) (dK D_FP_take 19 rfl) rfl (leK rfl) (leK rfl) (xf hfl) (by obtain rfl := Option.some.inj h; exact KT_ok ⟨rfl, rfl⟩)
    · replace h := ifN h hc8
      refine g_aloadn (pc := 25) (i0 := 0) (j := 1) (dK D_FP_take 13 rfl) rfl rfl ?_
      refine vg_getO (pc := 26) (ci := 10) (f := 3) (dK D_FP_take 14 rfl) q_425 hc0 (ltK rfl) (ltK rfl) rfl ?_
      refine g_iloadn (pc := 29) (i0 := 2) (j := 0) (dK D_FP_take 15 rfl) rfl rfl ?_
      refine bnE h (fun p3 e_p3 h => ?_)
      refine vg_cV (pc := 30) (As := [V (g S (tgt (tgt (tgt (tgt c0 3) 0) 0) 6) a1.toNat)]) (rest := []) (mc' := 0) (ms' := 0) (dK D_FP_take 16 rfl) K_FP_251 (fitK rfl) (ltK rfl) (hw_10_3 hc0) rfl (leK rfl) (leK rfl) (leK rfl) (tf_Plan_isPrinted (hw_10_3 hc0) (g_in _ _ _) e_p3) (kcB ?_)
      refine vg_ifB_eq (pc := 33) (b := p3) (t := 38) (dK D_FP_take 17 rfl) rfl (fun hc4 => ?_) (fun hc4 => ?_)
      · replace h := ifP h hc4
        refine vg_iconst (pc := 36) (dK D_FP_take 18 rfl) ?_
        exact vg_iretB (pc := 37) (b := false) (dK D_FP_take 19 rfl) rfl (leK rfl) (leK rfl) (xf hfl) (by obtain rfl := Option.some.inj h; exact KT_ok ⟨rfl, rfl⟩)
      · replace h := ifN h hc4
        refine g_aloadn (pc := 38) (i0 := 0) (j := 1) (dK D_FP_take 20 rfl) rfl rfl ?_
        refine vg_getO (pc := 39) (ci := 10) (f := 4) (dK D_FP_take 21 rfl) q_426 hc0 (ltK rfl) (ltK rfl) rfl ?_
        refine g_aloadn (pc := 42) (i0 := 0) (j := 1) (dK D_FP_take 22 rfl) rfl rfl ?_
        refine vg_getO (pc := 43) (ci := 10) (f := 3) (dK D_FP_take 23 rfl) q_425 hc0 (ltK rfl) (ltK rfl) rfl ?_
        refine vg_getO (pc := 46) (ci := 4) (f := 0) (dK D_FP_take 24 rfl) q_292 (hw_10_3 hc0) (ltK rfl) (ltK rfl) rfl ?_
        refine bnE h (fun p5 e_p5 h => ?_)
        refine vg_cV (pc := 49) (As := [.ref (tgt (tgt c0 3) 0)]) (rest := []) (mc' := 0) (ms' := 0) (dK D_FP_take 25 rfl) K_FP_155 (fitK rfl) (ltK rfl) (hw_10_4 hc0) rfl (leK rfl) (leK rfl) (leK rfl) (tf_History_keep (hw_10_4 hc0) (hw_4_0 (hw_10_3 hc0)) e_p5) (kcU ?_)
        refine g_aloadn (pc := 52) (i0 := 0) (j := 1) (dK D_FP_take 26 rfl) rfl rfl ?_
        refine vg_getO (pc := 53) (ci := 10) (f := 3) (dK D_FP_take 27 rfl) q_425 hc0 (ltK rfl) (ltK rfl) rfl ?_
        refine vg_getO (pc := 56) (ci := 4) (f := 0) (dK D_FP_take 28 rfl) q_292 (hw_10_3 hc0) (ltK rfl) (ltK rfl) rfl ?_
        refine vg_getO (pc := 59) (ci := 8) (f := 0) (dK D_FP_take 29 rfl) q_224 (hw_4_0 (hw_10_3 hc0)) (ltK rfl) (ltK rfl) rfl ?_
        refine vg_getA (pc := 62) (ci := 0) (f := 6) (dK D_FP_take 30 rfl) q_103 (hw_8_0 (hw_4_0 (hw_10_3 hc0))) (ltK rfl) (ltK rfl) rfl ?_
        refine g_iloadn (pc := 65) (i0 := 1) (j := 2) (dK D_FP_take 31 rfl) rfl rfl ?_
        refine vg_iconst (pc := 66) (dK D_FP_take 32 rfl) ?_
        refine nmE h (fun S6 e_S6 h => ?_)
        refine vg_iastore (pc := 67) (z := 0) (dK D_FP_take 33 rfl) (hw_0_6 (hw_8_0 (hw_4_0 (hw_10_3 hc0)))) rfl hi2 rfl e_S6 ?_
        refine g_aloadn (pc := 68) (i0 := 0) (j := 1) (dK D_FP_take 34 rfl) rfl rfl ?_
        refine vg_getO (pc := 69) (ci := 10) (f := 3) (dK D_FP_take 35 rfl) q_425 hc0 (ltK rfl) (ltK rfl) rfl ?_
        refine bnE h (fun p7 e_p7 h => ?_)
        refine vg_cV (pc := 72) (As := []) (rest := []) (mc' := 0) (ms' := 0) (dK D_FP_take 36 rfl) K_FP_254 (fitK rfl) (ltK rfl) (hw_10_3 hc0) rfl (leK rfl) (leK rfl) (leK rfl) (tf_Plan_recount (hw_10_3 hc0) e_p7) (kcU ?_)
        refine vg_iconst (pc := 75) (dK D_FP_take 37 rfl) ?_
        exact vg_iretB (pc := 76) (b := true) (dK D_FP_take 38 rfl) rfl (leK rfl) (leK rfl) (xf hfl) (by obtain rfl := Option.some.inj h; exact KT_ok ⟨rfl, rfl⟩)
  · replace h := ifN h he9
    obtain rfl := Option.some.inj h
    exact KT_thr he9
def fn_Law_take (c0 : Nat) (a1 : Int) (c2 : Nat) (S : St) : Option (Int × St) := bnO (fn_FP_take c0 a1 S) fun p1 => if p1.1 = 0 then (if p1.2.1 = true then (nm (ul p1.2.2 c2 0 1) fun S6 => some (0, S6)) else (nm (ul p1.2.2 c2 0 0) fun S5 => some (0, S5))) else (if p1.1 = 1 then (some (1, p1.2.2)) else none)
theorem tf_Law_take {E : EV} {X : XT} (hfl : X.2.2.2 = false) {c0 : Nat} (hc0 : HC X 10 c0) {a1 : Int} (ha1 : inR a1) {c2 : Nat} (hc2 : HA X 3 1 c2) {S : St} {q : Int × St} (h : fn_Law_take c0 a1 c2 S = some q) : EvH E M_Law_take [.ref c0, V a1, .ref c2] (WX X S) 1 6 (KI X q.1 q.2) := by
  refine EvH.of pn_Law (leK rfl) ?_
  show Go E M_Law_take 1 6 0 [(0, .ref c0), (1, V a1), (2, .ref c2)] [] (WX X S) 0 0 (KI X q.1 q.2)
  unfold fn_Law_take at h
  refine g_aloadn (pc := 0) (i0 := 2) (j := 2) (dK D_Law_take 0 rfl) rfl rfl ?_
  refine vg_iconst (pc := 1) (dK D_Law_take 1 rfl) ?_
  refine g_aloadn (pc := 2) (i0 := 0) (j := 0) (dK D_Law_take 2 rfl) rfl rfl ?_
  refine g_iloadn (pc := 3) (i0 := 1) (j := 1) (dK D_Law_take 3 rfl) rfl rfl ?_
  refine bnE h (fun p1 e_p1 h => ?_)
  refine vg_cVX hfl (pc := 4) (As := [V a1]) (rest := [V 0, .ref c2]) (mc' := 1) (ms' := 6) (dK D_Law_take 4 rfl) K_Law_58 (fitK rfl) (ltK rfl) hc0 rfl (leK rfl) (leK rfl) (leK rfl) (tf_FP_take hfl hc0 ha1 e_p1) (kxT hfl (fun he7 => kxB hfl ?_) (fun he7 => ?_))
  · replace h := ifP h he7
    refine vg_ifB_eq (pc := 7) (b := p1.2.1) (t := 14) (dK D_Law_take 5 rfl) rfl (fun hc4 => ?_) (fun hc4 => ?_)
    · replace h := ifP h hc4
      refine vg_lconst (pc := 10) (y := 1) (dK D_Law_take 6 rfl) rfl ?_
      refine g_goto (pc := 11) (tgt := 15) (dK D_Law_take 7 rfl) rfl ?_
      refine nmE h (fun S6 e_S6 h => ?_)
      refine vg_lastore (pc := 15) (z := 1) (dK D_Law_take 9 rfl) hc2 rfl ⟨by decide, by decide⟩ rfl e_S6 ?_
      refine g_goto (pc := 16) (tgt := 22) (dK D_Law_take 10 rfl) rfl ?_
      refine vg_iconst (pc := 22) (dK D_Law_take 14 rfl) ?_
      exact vg_iretI (pc := 23) (r := 0) (dK D_Law_take 15 rfl) rfl (leK rfl) (leK rfl) (xf hfl) (by obtain rfl := Option.some.inj h; exact ⟨rfl, (inRk rfl), rfl⟩)
    · replace h := ifN h hc4
      refine vg_lconst (pc := 14) (y := 0) (dK D_Law_take 8 rfl) rfl ?_
      refine nmE h (fun S5 e_S5 h => ?_)
      refine vg_lastore (pc := 15) (z := 0) (dK D_Law_take 9 rfl) hc2 rfl ⟨by decide, by decide⟩ rfl e_S5 ?_
      refine g_goto (pc := 16) (tgt := 22) (dK D_Law_take 10 rfl) rfl ?_
      refine vg_iconst (pc := 22) (dK D_Law_take 14 rfl) ?_
      exact vg_iretI (pc := 23) (r := 0) (dK D_Law_take 15 rfl) rfl (leK rfl) (leK rfl) (xf hfl) (by obtain rfl := Option.some.inj h; exact ⟨rfl, (inRk rfl), rfl⟩)
  · replace h := ifN h he7
    by_cases hq8 : p1.1 = 1
    · have h := ifP h hq8
      rw [hq8]
      exact ⟨_, CT_Law_take_4_1, (by obtain rfl := Option.some.inj h; exact ⟨rfl, (inRk rfl), rfl⟩)⟩
    · replace h := ifN h hq8
      exact nomatch h
def fn_FP_takeStory (c0 : Nat) (a1 : Int) (S : St) : Option (Nat × Bool × St) := bnO (fn_FP_needStory c0 a1 S) fun p1 => if p1 = 0 then (if 0 ≤ a1 ∧ a1 < 10 then (if (g S (tgt (tgt (tgt (tgt c0 3) 0) 1) 4) a1.toNat) = 0 then (some (0, false, S)) else (bnO (fn_Plan_storyIsPrinted (tgt c0 3) a1 S) fun p3 => if p3 = true then (some (0, false, S)) else (bnO (fn_History_keep (tgt c0 4) (tgt (tgt c0 3) 0) S) fun p5 => nm (u p5 (tgt (tgt (tgt (tgt c0 3) 0) 1) 4) a1.toNat 0) fun S6 => bnO (fn_Plan_recount (tgt c0 3) S6) fun p7 => some (0, true, p7)))) else none) else (some (p1, false, S))
theorem tf_FP_takeStory {E : EV} {X : XT} (hfl : X.2.2.2 = false) {c0 : Nat} (hc0 : HC X 10 c0) {a1 : Int} (ha1 : inR a1) {S : St} {q : Nat × Bool × St} (h : fn_FP_takeStory c0 a1 S = some q) : Ev E M_FP_takeStory [.ref c0, V a1] (WX X S) 1 6 (KT X q.1 q.2.2 (KB X q.2.1 q.2.2)) := by
  refine Ev.of pn_FP rfl (leK rfl) ?_
  show Go E M_FP_takeStory 1 6 0 [(0, .ref c0), (1, V a1)] [] (WX X S) 0 0 (KT X q.1 q.2.2 (KB X q.2.1 q.2.2))
  unfold fn_FP_takeStory at h
  refine g_aloadn (pc := 0) (i0 := 0) (j := 0) (dK D_FP_takeStory 0 rfl) rfl rfl ?_
  refine g_iloadn (pc := 1) (i0 := 1) (j := 1) (dK D_FP_takeStory 1 rfl) rfl rfl ?_
  refine bnE h (fun p1 e_p1 h => ?_)
  refine vg_cV (pc := 2) (As := [V a1]) (rest := []) (mc' := 1) (ms' := 6) (dK D_FP_takeStory 2 rfl) K_FP_192 (fitK rfl) (ltK rfl) hc0 rfl (leK rfl) (leK rfl) (leK rfl) (tf_FP_needStory hfl hc0 ha1 e_p1) (kcT hfl (fun he9 => kcU ?_) (fun he9 => ⟨rfl, ?_⟩))
  · replace h := ifP h he9
    refine g_aloadn (pc := 5) (i0 := 0) (j := 0) (dK D_FP_takeStory 3 rfl) rfl rfl ?_
    refine vg_getO (pc := 6) (ci := 10) (f := 3) (dK D_FP_takeStory 4 rfl) q_425 hc0 (ltK rfl) (ltK rfl) rfl ?_
    refine vg_getO (pc := 9) (ci := 4) (f := 0) (dK D_FP_takeStory 5 rfl) q_292 (hw_10_3 hc0) (ltK rfl) (ltK rfl) rfl ?_
    refine vg_getO (pc := 12) (ci := 8) (f := 1) (dK D_FP_takeStory 6 rfl) q_229 (hw_4_0 (hw_10_3 hc0)) (ltK rfl) (ltK rfl) rfl ?_
    refine vg_getA (pc := 15) (ci := 9) (f := 4) (dK D_FP_takeStory 7 rfl) q_151 (hw_8_1 (hw_4_0 (hw_10_3 hc0))) (ltK rfl) (ltK rfl) rfl ?_
    refine g_iloadn (pc := 18) (i0 := 1) (j := 1) (dK D_FP_takeStory 8 rfl) rfl rfl ?_
    refine gdE h (fun hi2 h => ?_)
    refine vg_iaload (pc := 19) (j := a1.toNat) (dK D_FP_takeStory 9 rfl) (hw_9_4 (hw_8_1 (hw_4_0 (hw_10_3 hc0)))) rfl hi2 rfl ?_
    refine vg_if_eq (pc := 20) (t := 34) (dK D_FP_takeStory 10 rfl) rfl (g_in _ _ _) (fun hc8 => ?_) (fun hc8 => ?_)
    · replace h := ifP h hc8
      refine vg_iconst (pc := 34) (dK D_FP_takeStory 16 rfl) ?_
      exact vg_iretB (pc := 35) (b := false) (dK D_FP_takeStory 17 rfl) rfl (leK rfl) (leK rfl) (xf hfl) (by obtain rfl := Option.some.inj h; exact KT_ok ⟨rfl, rfl⟩)
    · replace h := ifN h hc8
      refine g_aloadn (pc := 23) (i0 := 0) (j := 0) (dK D_FP_takeStory 11 rfl) rfl rfl ?_
      refine vg_getO (pc := 24) (ci := 10) (f := 3) (dK D_FP_takeStory 12 rfl) q_425 hc0 (ltK rfl) (ltK rfl) rfl ?_
      refine g_iloadn (pc := 27) (i0 := 1) (j := 1) (dK D_FP_takeStory 13 rfl) rfl rfl ?_
      refine bnE h (fun p3 e_p3 h => ?_)
      refine vg_cV (pc := 28) (As := [V a1]) (rest := []) (mc' := 0) (ms' := 0) (dK D_FP_takeStory 14 rfl) K_FP_257 (fitK rfl) (ltK rfl) (hw_10_3 hc0) rfl (leK rfl) (leK rfl) (leK rfl) (tf_Plan_storyIsPrinted (hw_10_3 hc0) ha1 e_p3) (kcB ?_)
      refine vg_ifB_eq (pc := 31) (b := p3) (t := 36) (dK D_FP_takeStory 15 rfl) rfl (fun hc4 => ?_) (fun hc4 => ?_)
      · replace h := ifP h hc4
        refine vg_iconst (pc := 34) (dK D_FP_takeStory 16 rfl) ?_
        exact vg_iretB (pc := 35) (b := false) (dK D_FP_takeStory 17 rfl) rfl (leK rfl) (leK rfl) (xf hfl) (by obtain rfl := Option.some.inj h; exact KT_ok ⟨rfl, rfl⟩)
      · replace h := ifN h hc4
        refine g_aloadn (pc := 36) (i0 := 0) (j := 0) (dK D_FP_takeStory 18 rfl) rfl rfl ?_
        refine vg_getO (pc := 37) (ci := 10) (f := 4) (dK D_FP_takeStory 19 rfl) q_426 hc0 (ltK rfl) (ltK rfl) rfl ?_
        refine g_aloadn (pc := 40) (i0 := 0) (j := 0) (dK D_FP_takeStory 20 rfl) rfl rfl ?_
        refine vg_getO (pc := 41) (ci := 10) (f := 3) (dK D_FP_takeStory 21 rfl) q_425 hc0 (ltK rfl) (ltK rfl) rfl ?_
        refine vg_getO (pc := 44) (ci := 4) (f := 0) (dK D_FP_takeStory 22 rfl) q_292 (hw_10_3 hc0) (ltK rfl) (ltK rfl) rfl ?_
        refine bnE h (fun p5 e_p5 h => ?_)
        refine vg_cV (pc := 47) (As := [.ref (tgt (tgt c0 3) 0)]) (rest := []) (mc' := 0) (ms' := 0) (dK D_FP_takeStory 23 rfl) K_FP_155 (fitK rfl) (ltK rfl) (hw_10_4 hc0) rfl (leK rfl) (leK rfl) (leK rfl) (tf_History_keep (hw_10_4 hc0) (hw_4_0 (hw_10_3 hc0)) e_p5) (kcU ?_)
        refine g_aloadn (pc := 50) (i0 := 0) (j := 0) (dK D_FP_takeStory 24 rfl) rfl rfl ?_
        refine vg_getO (pc := 51) (ci := 10) (f := 3) (dK D_FP_takeStory 25 rfl) q_425 hc0 (ltK rfl) (ltK rfl) rfl ?_
        refine vg_getO (pc := 54) (ci := 4) (f := 0) (dK D_FP_takeStory 26 rfl) q_292 (hw_10_3 hc0) (ltK rfl) (ltK rfl) rfl ?_
        refine vg_getO (pc := 57) (ci := 8) (f := 1) (dK D_FP_takeStory 27 rfl) q_229 (hw_4_0 (hw_10_3 hc0)) (ltK rfl) (ltK rfl) rfl ?_
        refine vg_getA (pc := 60) (ci := 9) (f := 4) (dK D_FP_takeStory 28 rfl) q_151 (hw_8_1 (hw_4_0 (hw_10_3 hc0))) (ltK rfl) (ltK rfl) rfl ?_
        refine g_iloadn (pc := 63) (i0 := 1) (j := 1) (dK D_FP_takeStory 29 rfl) rfl rfl ?_
        refine vg_iconst (pc := 64) (dK D_FP_takeStory 30 rfl) ?_
        refine nmE h (fun S6 e_S6 h => ?_)
        refine vg_iastore (pc := 65) (z := 0) (dK D_FP_takeStory 31 rfl) (hw_9_4 (hw_8_1 (hw_4_0 (hw_10_3 hc0)))) rfl hi2 rfl e_S6 ?_
        refine g_aloadn (pc := 66) (i0 := 0) (j := 0) (dK D_FP_takeStory 32 rfl) rfl rfl ?_
        refine vg_getO (pc := 67) (ci := 10) (f := 3) (dK D_FP_takeStory 33 rfl) q_425 hc0 (ltK rfl) (ltK rfl) rfl ?_
        refine bnE h (fun p7 e_p7 h => ?_)
        refine vg_cV (pc := 70) (As := []) (rest := []) (mc' := 0) (ms' := 0) (dK D_FP_takeStory 34 rfl) K_FP_254 (fitK rfl) (ltK rfl) (hw_10_3 hc0) rfl (leK rfl) (leK rfl) (leK rfl) (tf_Plan_recount (hw_10_3 hc0) e_p7) (kcU ?_)
        refine vg_iconst (pc := 73) (dK D_FP_takeStory 35 rfl) ?_
        exact vg_iretB (pc := 74) (b := true) (dK D_FP_takeStory 36 rfl) rfl (leK rfl) (leK rfl) (xf hfl) (by obtain rfl := Option.some.inj h; exact KT_ok ⟨rfl, rfl⟩)
  · replace h := ifN h he9
    obtain rfl := Option.some.inj h
    exact KT_thr he9
def fn_Law_takeStory (c0 : Nat) (a1 : Int) (c2 : Nat) (S : St) : Option (Int × St) := bnO (fn_FP_takeStory c0 a1 S) fun p1 => if p1.1 = 0 then (if p1.2.1 = true then (nm (ul p1.2.2 c2 0 1) fun S6 => some (0, S6)) else (nm (ul p1.2.2 c2 0 0) fun S5 => some (0, S5))) else (if p1.1 = 1 then (some (1, p1.2.2)) else none)
theorem tf_Law_takeStory {E : EV} {X : XT} (hfl : X.2.2.2 = false) {c0 : Nat} (hc0 : HC X 10 c0) {a1 : Int} (ha1 : inR a1) {c2 : Nat} (hc2 : HA X 3 1 c2) {S : St} {q : Int × St} (h : fn_Law_takeStory c0 a1 c2 S = some q) : EvH E M_Law_takeStory [.ref c0, V a1, .ref c2] (WX X S) 1 6 (KI X q.1 q.2) := by
  refine EvH.of pn_Law (leK rfl) ?_
  show Go E M_Law_takeStory 1 6 0 [(0, .ref c0), (1, V a1), (2, .ref c2)] [] (WX X S) 0 0 (KI X q.1 q.2)
  unfold fn_Law_takeStory at h
  refine g_aloadn (pc := 0) (i0 := 2) (j := 2) (dK D_Law_takeStory 0 rfl) rfl rfl ?_
  refine vg_iconst (pc := 1) (dK D_Law_takeStory 1 rfl) ?_
  refine g_aloadn (pc := 2) (i0 := 0) (j := 0) (dK D_Law_takeStory 2 rfl) rfl rfl ?_
  refine g_iloadn (pc := 3) (i0 := 1) (j := 1) (dK D_Law_takeStory 3 rfl) rfl rfl ?_
  refine bnE h (fun p1 e_p1 h => ?_)
  refine vg_cVX hfl (pc := 4) (As := [V a1]) (rest := [V 0, .ref c2]) (mc' := 1) (ms' := 6) (dK D_Law_takeStory 4 rfl) K_Law_62 (fitK rfl) (ltK rfl) hc0 rfl (leK rfl) (leK rfl) (leK rfl) (tf_FP_takeStory hfl hc0 ha1 e_p1) (kxT hfl (fun he7 => kxB hfl ?_) (fun he7 => ?_))
  · replace h := ifP h he7
    refine vg_ifB_eq (pc := 7) (b := p1.2.1) (t := 14) (dK D_Law_takeStory 5 rfl) rfl (fun hc4 => ?_) (fun hc4 => ?_)
    · replace h := ifP h hc4
      refine vg_lconst (pc := 10) (y := 1) (dK D_Law_takeStory 6 rfl) rfl ?_
      refine g_goto (pc := 11) (tgt := 15) (dK D_Law_takeStory 7 rfl) rfl ?_
      refine nmE h (fun S6 e_S6 h => ?_)
      refine vg_lastore (pc := 15) (z := 1) (dK D_Law_takeStory 9 rfl) hc2 rfl ⟨by decide, by decide⟩ rfl e_S6 ?_
      refine g_goto (pc := 16) (tgt := 22) (dK D_Law_takeStory 10 rfl) rfl ?_
      refine vg_iconst (pc := 22) (dK D_Law_takeStory 14 rfl) ?_
      exact vg_iretI (pc := 23) (r := 0) (dK D_Law_takeStory 15 rfl) rfl (leK rfl) (leK rfl) (xf hfl) (by obtain rfl := Option.some.inj h; exact ⟨rfl, (inRk rfl), rfl⟩)
    · replace h := ifN h hc4
      refine vg_lconst (pc := 14) (y := 0) (dK D_Law_takeStory 8 rfl) rfl ?_
      refine nmE h (fun S5 e_S5 h => ?_)
      refine vg_lastore (pc := 15) (z := 0) (dK D_Law_takeStory 9 rfl) hc2 rfl ⟨by decide, by decide⟩ rfl e_S5 ?_
      refine g_goto (pc := 16) (tgt := 22) (dK D_Law_takeStory 10 rfl) rfl ?_
      refine vg_iconst (pc := 22) (dK D_Law_takeStory 14 rfl) ?_
      exact vg_iretI (pc := 23) (r := 0) (dK D_Law_takeStory 15 rfl) rfl (leK rfl) (leK rfl) (xf hfl) (by obtain rfl := Option.some.inj h; exact ⟨rfl, (inRk rfl), rfl⟩)
  · replace h := ifN h he7
    by_cases hq8 : p1.1 = 1
    · have h := ifP h hq8
      rw [hq8]
      exact ⟨_, CT_Law_takeStory_4_1, (by obtain rfl := Option.some.inj h; exact ⟨rfl, (inRk rfl), rfl⟩)⟩
    · replace h := ifN h hq8
      exact nomatch h
def fn_Plan_useReason (c0 : Nat) (a1 : Int) (a2 : Int) (S : St) : Option (Int) := if 0 ≤ a1 ∧ a1 < 8 then (bnO (fn_Plan_hasPage c0 a2 S) fun p2 => if p2 = true then (bnO (fn_Plan_isPrinted c0 a2 S) fun p4 => if p4 = true then (some 2) else (bnO (fn_Plan_isPrinted c0 (g S (tgt (tgt (tgt c0 0) 2) 1) a1.toNat) S) fun p6 => if p6 = true then (some 2) else (if 0 ≤ a2 ∧ a2 < 65 then (if (g S (tgt (tgt (tgt c0 0) 2) 1) a1.toNat) = a2 then (nm (wr ((g S (tgt c0 5) a2.toNat) + (g S (tgt (tgt (tgt c0 0) 2) 0) a1.toNat))) fun v11 => if (g S (tgt (tgt (tgt c0 0) 2) 0) a1.toNat) ≤ v11 then (some 0) else (some 3)) else (nm (wr ((g S (tgt c0 5) a2.toNat) + 0)) fun v9 => if (g S (tgt (tgt (tgt c0 0) 2) 0) a1.toNat) ≤ v9 then (some 0) else (some 3))) else none))) else (some 1)) else none
theorem tf_Plan_useReason {E : EV} {X : XT} {c0 : Nat} (hc0 : HC X 4 c0) {a1 : Int} (ha1 : inR a1) {a2 : Int} (ha2 : inR a2) {S : St} {q : Int} (h : fn_Plan_useReason c0 a1 a2 S = some q) : Ev E M_Plan_useReason [.ref c0, V a1, V a2] (WX X S) 0 0 (KI X q S) := by
  refine Ev.of pn_Plan rfl (leK rfl) ?_
  show Go E M_Plan_useReason 0 0 0 [(0, .ref c0), (1, V a1), (2, V a2)] [] (WX X S) 0 0 (KI X q S)
  unfold fn_Plan_useReason at h
  refine g_aloadn (pc := 0) (i0 := 0) (j := 0) (dK D_Plan_useReason 0 rfl) rfl rfl ?_
  refine vg_getO (pc := 1) (ci := 4) (f := 0) (dK D_Plan_useReason 1 rfl) q_290 hc0 (ltK rfl) (ltK rfl) rfl ?_
  refine vg_getO (pc := 4) (ci := 8) (f := 2) (dK D_Plan_useReason 2 rfl) q_231 (hw_4_0 hc0) (ltK rfl) (ltK rfl) rfl ?_
  refine vg_getA (pc := 7) (ci := 7) (f := 0) (dK D_Plan_useReason 3 rfl) q_178 (hw_8_2 (hw_4_0 hc0)) (ltK rfl) (ltK rfl) rfl ?_
  refine g_iloadn (pc := 10) (i0 := 1) (j := 1) (dK D_Plan_useReason 4 rfl) rfl rfl ?_
  refine gdE h (fun hi1 h => ?_)
  refine vg_iaload (pc := 11) (j := a1.toNat) (dK D_Plan_useReason 5 rfl) (hw_7_0 (hw_8_2 (hw_4_0 hc0))) rfl hi1 rfl ?_
  refine g_istoren (pc := 12) (i0 := 3) (ls2 := [(3, V (g S (tgt (tgt (tgt c0 0) 2) 0) a1.toNat)), (0, .ref c0), (1, V a1), (2, V a2)]) (dK D_Plan_useReason 6 rfl) rfl (ltK rfl) rfl ?_
  refine g_aloadn (pc := 13) (i0 := 0) (j := 1) (dK D_Plan_useReason 7 rfl) rfl rfl ?_
  refine vg_getO (pc := 14) (ci := 4) (f := 0) (dK D_Plan_useReason 8 rfl) q_290 hc0 (ltK rfl) (ltK rfl) rfl ?_
  refine vg_getO (pc := 17) (ci := 8) (f := 2) (dK D_Plan_useReason 9 rfl) q_231 (hw_4_0 hc0) (ltK rfl) (ltK rfl) rfl ?_
  refine vg_getA (pc := 20) (ci := 7) (f := 1) (dK D_Plan_useReason 10 rfl) q_181 (hw_8_2 (hw_4_0 hc0)) (ltK rfl) (ltK rfl) rfl ?_
  refine g_iloadn (pc := 23) (i0 := 1) (j := 2) (dK D_Plan_useReason 11 rfl) rfl rfl ?_
  refine vg_iaload (pc := 24) (j := a1.toNat) (dK D_Plan_useReason 12 rfl) (hw_7_1 (hw_8_2 (hw_4_0 hc0))) rfl hi1 rfl ?_
  refine g_istore (pc := 25) (ls2 := [(4, V (g S (tgt (tgt (tgt c0 0) 2) 1) a1.toNat)), (3, V (g S (tgt (tgt (tgt c0 0) 2) 0) a1.toNat)), (0, .ref c0), (1, V a1), (2, V a2)]) (dK D_Plan_useReason 13 rfl) (ltK rfl) rfl ?_
  refine g_aloadn (pc := 27) (i0 := 0) (j := 2) (dK D_Plan_useReason 14 rfl) rfl rfl ?_
  refine g_iloadn (pc := 28) (i0 := 2) (j := 4) (dK D_Plan_useReason 15 rfl) rfl rfl ?_
  refine bnE h (fun p2 e_p2 h => ?_)
  refine vg_cV (pc := 29) (As := [V a2]) (rest := []) (mc' := 0) (ms' := 0) (dK D_Plan_useReason 16 rfl) K_Plan_119 (fitK rfl) (ltK rfl) hc0 rfl (leK rfl) (leK rfl) (leK rfl) (tf_Plan_hasPage hc0 ha2 e_p2) (kcB ?_)
  refine vg_ifB_ne (pc := 32) (b := p2) (t := 37) (dK D_Plan_useReason 17 rfl) rfl (fun hc3 => ?_) (fun hc3 => ?_)
  · replace h := ifP h hc3
    refine g_aloadn (pc := 37) (i0 := 0) (j := 2) (dK D_Plan_useReason 20 rfl) rfl rfl ?_
    refine g_iloadn (pc := 38) (i0 := 2) (j := 4) (dK D_Plan_useReason 21 rfl) rfl rfl ?_
    refine bnE h (fun p4 e_p4 h => ?_)
    refine vg_cV (pc := 39) (As := [V a2]) (rest := []) (mc' := 0) (ms' := 0) (dK D_Plan_useReason 22 rfl) K_Plan_135 (fitK rfl) (ltK rfl) hc0 rfl (leK rfl) (leK rfl) (leK rfl) (tf_Plan_isPrinted hc0 ha2 e_p4) (kcB ?_)
    refine vg_ifB_ne (pc := 42) (b := p4) (t := 54) (dK D_Plan_useReason 23 rfl) rfl (fun hc5 => ?_) (fun hc5 => ?_)
    · replace h := ifP h hc5
      refine vg_iconst (pc := 54) (dK D_Plan_useReason 28 rfl) ?_
      exact vg_iretI (pc := 55) (r := 2) (dK D_Plan_useReason 29 rfl) rfl (leK rfl) (leK rfl) (fun _ => rfl) (by obtain rfl := Option.some.inj h; exact ⟨rfl, (inRk rfl), rfl⟩)
    · replace h := ifN h hc5
      refine g_aloadn (pc := 45) (i0 := 0) (j := 2) (dK D_Plan_useReason 24 rfl) rfl rfl ?_
      refine g_iload (pc := 46) (j := 0) (dK D_Plan_useReason 25 rfl) rfl ?_
      refine bnE h (fun p6 e_p6 h => ?_)
      refine vg_cV (pc := 48) (As := [V (g S (tgt (tgt (tgt c0 0) 2) 1) a1.toNat)]) (rest := []) (mc' := 0) (ms' := 0) (dK D_Plan_useReason 26 rfl) K_Plan_135 (fitK rfl) (ltK rfl) hc0 rfl (leK rfl) (leK rfl) (leK rfl) (tf_Plan_isPrinted hc0 (g_in _ _ _) e_p6) (kcB ?_)
      refine vg_ifB_eq (pc := 51) (b := p6) (t := 56) (dK D_Plan_useReason 27 rfl) rfl (fun hc7 => ?_) (fun hc7 => ?_)
      · replace h := ifP h hc7
        refine vg_iconst (pc := 54) (dK D_Plan_useReason 28 rfl) ?_
        exact vg_iretI (pc := 55) (r := 2) (dK D_Plan_useReason 29 rfl) rfl (leK rfl) (leK rfl) (fun _ => rfl) (by obtain rfl := Option.some.inj h; exact ⟨rfl, (inRk rfl), rfl⟩)
      · replace h := ifN h hc7
        refine g_aloadn (pc := 56) (i0 := 0) (j := 2) (dK D_Plan_useReason 30 rfl) rfl rfl ?_
        refine vg_getA (pc := 57) (ci := 4) (f := 5) (dK D_Plan_useReason 31 rfl) q_307 hc0 (ltK rfl) (ltK rfl) rfl ?_
        refine g_iloadn (pc := 60) (i0 := 2) (j := 4) (dK D_Plan_useReason 32 rfl) rfl rfl ?_
        refine gdE h (fun hi8 h => ?_)
        refine vg_iaload (pc := 61) (j := a2.toNat) (dK D_Plan_useReason 33 rfl) (hw_4_5 hc0) rfl hi8 rfl ?_
        refine g_iload (pc := 62) (j := 0) (dK D_Plan_useReason 34 rfl) rfl ?_
        refine g_iloadn (pc := 64) (i0 := 2) (j := 4) (dK D_Plan_useReason 35 rfl) rfl rfl ?_
        refine vg_icmp_ne (pc := 65) (t := 72) (dK D_Plan_useReason 36 rfl) rfl (g_in _ _ _) ha2 (fun hc13 => ?_) (fun hc13 => ?_)
        · replace h := ifN h hc13
          refine vg_iconst (pc := 72) (dK D_Plan_useReason 39 rfl) ?_
          refine vg_iadd (pc := 73) (dK D_Plan_useReason 40 rfl) ?_
          refine nmE h (fun v9 e_v9 h => ?_)
          refine gtop e_v9 ?_
          refine g_istore (pc := 74) (ls2 := [(5, V v9), (4, V (g S (tgt (tgt (tgt c0 0) 2) 1) a1.toNat)), (3, V (g S (tgt (tgt (tgt c0 0) 2) 0) a1.toNat)), (0, .ref c0), (1, V a1), (2, V a2)]) (dK D_Plan_useReason 41 rfl) (ltK rfl) rfl ?_
          refine g_iload (pc := 76) (j := 0) (dK D_Plan_useReason 42 rfl) rfl ?_
          refine g_iloadn (pc := 78) (i0 := 3) (j := 2) (dK D_Plan_useReason 43 rfl) rfl rfl ?_
          refine vg_icmp_ge (pc := 79) (t := 86) (dK D_Plan_useReason 44 rfl) rfl (Vn_in e_v9) (g_in _ _ _) (fun hc10 => ?_) (fun hc10 => ?_)
          · replace h := ifP h hc10
            refine vg_iconst (pc := 86) (dK D_Plan_useReason 47 rfl) ?_
            exact vg_iretI (pc := 87) (r := 0) (dK D_Plan_useReason 48 rfl) rfl (leK rfl) (leK rfl) (fun _ => rfl) (by obtain rfl := Option.some.inj h; exact ⟨rfl, (inRk rfl), rfl⟩)
          · replace h := ifN h hc10
            refine vg_iconst (pc := 82) (dK D_Plan_useReason 45 rfl) ?_
            refine g_goto (pc := 83) (tgt := 87) (dK D_Plan_useReason 46 rfl) rfl ?_
            exact vg_iretI (pc := 87) (r := 3) (dK D_Plan_useReason 48 rfl) rfl (leK rfl) (leK rfl) (fun _ => rfl) (by obtain rfl := Option.some.inj h; exact ⟨rfl, (inRk rfl), rfl⟩)
        · replace h := ifP h hc13
          refine g_iloadn (pc := 68) (i0 := 3) (j := 1) (dK D_Plan_useReason 37 rfl) rfl rfl ?_
          refine g_goto (pc := 69) (tgt := 73) (dK D_Plan_useReason 38 rfl) rfl ?_
          refine vg_iadd (pc := 73) (dK D_Plan_useReason 40 rfl) ?_
          refine nmE h (fun v11 e_v11 h => ?_)
          refine gtop e_v11 ?_
          refine g_istore (pc := 74) (ls2 := [(5, V v11), (4, V (g S (tgt (tgt (tgt c0 0) 2) 1) a1.toNat)), (3, V (g S (tgt (tgt (tgt c0 0) 2) 0) a1.toNat)), (0, .ref c0), (1, V a1), (2, V a2)]) (dK D_Plan_useReason 41 rfl) (ltK rfl) rfl ?_
          refine g_iload (pc := 76) (j := 0) (dK D_Plan_useReason 42 rfl) rfl ?_
          refine g_iloadn (pc := 78) (i0 := 3) (j := 2) (dK D_Plan_useReason 43 rfl) rfl rfl ?_
          refine vg_icmp_ge (pc := 79) (t := 86) (dK D_Plan_useReason 44 rfl) rfl (Vn_in e_v11) (g_in _ _ _) (fun hc12 => ?_) (fun hc12 => ?_)
          · replace h := ifP h hc12
            refine vg_iconst (pc := 86) (dK D_Plan_useReason 47 rfl) ?_
            exact vg_iretI (pc := 87) (r := 0) (dK D_Plan_useReason 48 rfl) rfl (leK rfl) (leK rfl) (fun _ => rfl) (by obtain rfl := Option.some.inj h; exact ⟨rfl, (inRk rfl), rfl⟩)
          · replace h := ifN h hc12
            refine vg_iconst (pc := 82) (dK D_Plan_useReason 45 rfl) ?_
            refine g_goto (pc := 83) (tgt := 87) (dK D_Plan_useReason 46 rfl) rfl ?_
            exact vg_iretI (pc := 87) (r := 3) (dK D_Plan_useReason 48 rfl) rfl (leK rfl) (leK rfl) (fun _ => rfl) (by obtain rfl := Option.some.inj h; exact ⟨rfl, (inRk rfl), rfl⟩)
  · replace h := ifN h hc3
    refine vg_iconst (pc := 35) (dK D_Plan_useReason 18 rfl) ?_
    exact vg_iretI (pc := 36) (r := 1) (dK D_Plan_useReason 19 rfl) rfl (leK rfl) (leK rfl) (fun _ => rfl) (by obtain rfl := Option.some.inj h; exact ⟨rfl, (inRk rfl), rfl⟩)
def fn_FP_use (c0 : Nat) (a1 : Int) (a2 : Int) (S : St) : Option (Nat × Int × St) := bnO (fn_FP_needStandby c0 a1 S) fun p1 => if p1 = 0 then (bnO (fn_Plan_useReason (tgt c0 3) a1 a2 S) fun p2 => if p2 = 0 then (bnO (fn_History_keep (tgt c0 4) (tgt (tgt c0 3) 0) S) fun p3 => if 0 ≤ a1 ∧ a1 < 8 then (nm (u p3 (tgt (tgt (tgt (tgt c0 3) 0) 2) 1) a1.toNat a2) fun S5 => bnO (fn_Plan_recount (tgt c0 3) S5) fun p6 => some (0, p2, p6)) else none) else (some (0, p2, S))) else (some (p1, 0, S))
theorem tf_FP_use {E : EV} {X : XT} (hfl : X.2.2.2 = false) {c0 : Nat} (hc0 : HC X 10 c0) {a1 : Int} (ha1 : inR a1) {a2 : Int} (ha2 : inR a2) {S : St} {q : Nat × Int × St} (h : fn_FP_use c0 a1 a2 S = some q) : Ev E M_FP_use [.ref c0, V a1, V a2] (WX X S) 1 6 (KT X q.1 q.2.2 (KI X q.2.1 q.2.2)) := by
  refine Ev.of pn_FP rfl (leK rfl) ?_
  show Go E M_FP_use 1 6 0 [(0, .ref c0), (1, V a1), (2, V a2)] [] (WX X S) 0 0 (KT X q.1 q.2.2 (KI X q.2.1 q.2.2))
  unfold fn_FP_use at h
  refine g_aloadn (pc := 0) (i0 := 0) (j := 0) (dK D_FP_use 0 rfl) rfl rfl ?_
  refine g_iloadn (pc := 1) (i0 := 1) (j := 1) (dK D_FP_use 1 rfl) rfl rfl ?_
  refine bnE h (fun p1 e_p1 h => ?_)
  refine vg_cV (pc := 2) (As := [V a1]) (rest := []) (mc' := 1) (ms' := 6) (dK D_FP_use 2 rfl) K_FP_200 (fitK rfl) (ltK rfl) hc0 rfl (leK rfl) (leK rfl) (leK rfl) (tf_FP_needStandby hfl hc0 ha1 e_p1) (kcT hfl (fun he8 => kcU ?_) (fun he8 => ⟨rfl, ?_⟩))
  · replace h := ifP h he8
    refine g_aloadn (pc := 5) (i0 := 0) (j := 0) (dK D_FP_use 3 rfl) rfl rfl ?_
    refine vg_getO (pc := 6) (ci := 10) (f := 3) (dK D_FP_use 4 rfl) q_425 hc0 (ltK rfl) (ltK rfl) rfl ?_
    refine g_iloadn (pc := 9) (i0 := 1) (j := 1) (dK D_FP_use 5 rfl) rfl rfl ?_
    refine g_iloadn (pc := 10) (i0 := 2) (j := 2) (dK D_FP_use 6 rfl) rfl rfl ?_
    refine bnE h (fun p2 e_p2 h => ?_)
    refine vg_cV (pc := 11) (As := [V a1, V a2]) (rest := []) (mc' := 0) (ms' := 0) (dK D_FP_use 7 rfl) K_FP_260 (fitK rfl) (ltK rfl) (hw_10_3 hc0) rfl (leK rfl) (leK rfl) (leK rfl) (tf_Plan_useReason (hw_10_3 hc0) ha1 ha2 e_p2) (kcI (fun h_p2 => ?_))
    refine g_istoren (pc := 14) (i0 := 3) (ls2 := [(3, V p2), (0, .ref c0), (1, V a1), (2, V a2)]) (dK D_FP_use 8 rfl) rfl (ltK rfl) rfl ?_
    refine g_iloadn (pc := 15) (i0 := 3) (j := 0) (dK D_FP_use 9 rfl) rfl rfl ?_
    refine vg_if_ne (pc := 16) (t := 56) (dK D_FP_use 10 rfl) rfl h_p2 (fun hc7 => ?_) (fun hc7 => ?_)
    · replace h := ifN h hc7
      refine g_iloadn (pc := 56) (i0 := 3) (j := 0) (dK D_FP_use 28 rfl) rfl rfl ?_
      exact vg_iretI (pc := 57) (r := p2) (dK D_FP_use 29 rfl) rfl (leK rfl) (leK rfl) (xf hfl) (by obtain rfl := Option.some.inj h; exact KT_ok ⟨rfl, h_p2, rfl⟩)
    · replace h := ifP h hc7
      refine g_aloadn (pc := 19) (i0 := 0) (j := 1) (dK D_FP_use 11 rfl) rfl rfl ?_
      refine vg_getO (pc := 20) (ci := 10) (f := 4) (dK D_FP_use 12 rfl) q_426 hc0 (ltK rfl) (ltK rfl) rfl ?_
      refine g_aloadn (pc := 23) (i0 := 0) (j := 1) (dK D_FP_use 13 rfl) rfl rfl ?_
      refine vg_getO (pc := 24) (ci := 10) (f := 3) (dK D_FP_use 14 rfl) q_425 hc0 (ltK rfl) (ltK rfl) rfl ?_
      refine vg_getO (pc := 27) (ci := 4) (f := 0) (dK D_FP_use 15 rfl) q_292 (hw_10_3 hc0) (ltK rfl) (ltK rfl) rfl ?_
      refine bnE h (fun p3 e_p3 h => ?_)
      refine vg_cV (pc := 30) (As := [.ref (tgt (tgt c0 3) 0)]) (rest := []) (mc' := 0) (ms' := 0) (dK D_FP_use 16 rfl) K_FP_155 (fitK rfl) (ltK rfl) (hw_10_4 hc0) rfl (leK rfl) (leK rfl) (leK rfl) (tf_History_keep (hw_10_4 hc0) (hw_4_0 (hw_10_3 hc0)) e_p3) (kcU ?_)
      refine g_aloadn (pc := 33) (i0 := 0) (j := 1) (dK D_FP_use 17 rfl) rfl rfl ?_
      refine vg_getO (pc := 34) (ci := 10) (f := 3) (dK D_FP_use 18 rfl) q_425 hc0 (ltK rfl) (ltK rfl) rfl ?_
      refine vg_getO (pc := 37) (ci := 4) (f := 0) (dK D_FP_use 19 rfl) q_292 (hw_10_3 hc0) (ltK rfl) (ltK rfl) rfl ?_
      refine vg_getO (pc := 40) (ci := 8) (f := 2) (dK D_FP_use 20 rfl) q_232 (hw_4_0 (hw_10_3 hc0)) (ltK rfl) (ltK rfl) rfl ?_
      refine vg_getA (pc := 43) (ci := 7) (f := 1) (dK D_FP_use 21 rfl) q_182 (hw_8_2 (hw_4_0 (hw_10_3 hc0))) (ltK rfl) (ltK rfl) rfl ?_
      refine g_iloadn (pc := 46) (i0 := 1) (j := 2) (dK D_FP_use 22 rfl) rfl rfl ?_
      refine g_iloadn (pc := 47) (i0 := 2) (j := 3) (dK D_FP_use 23 rfl) rfl rfl ?_
      refine gdE h (fun hi4 h => ?_)
      refine nmE h (fun S5 e_S5 h => ?_)
      refine vg_iastore (pc := 48) (z := a2) (dK D_FP_use 24 rfl) (hw_7_1 (hw_8_2 (hw_4_0 (hw_10_3 hc0)))) rfl hi4 rfl e_S5 ?_
      refine g_aloadn (pc := 49) (i0 := 0) (j := 1) (dK D_FP_use 25 rfl) rfl rfl ?_
      refine vg_getO (pc := 50) (ci := 10) (f := 3) (dK D_FP_use 26 rfl) q_425 hc0 (ltK rfl) (ltK rfl) rfl ?_
      refine bnE h (fun p6 e_p6 h => ?_)
      refine vg_cV (pc := 53) (As := []) (rest := []) (mc' := 0) (ms' := 0) (dK D_FP_use 27 rfl) K_FP_254 (fitK rfl) (ltK rfl) (hw_10_3 hc0) rfl (leK rfl) (leK rfl) (leK rfl) (tf_Plan_recount (hw_10_3 hc0) e_p6) (kcU ?_)
      refine g_iloadn (pc := 56) (i0 := 3) (j := 0) (dK D_FP_use 28 rfl) rfl rfl ?_
      exact vg_iretI (pc := 57) (r := p2) (dK D_FP_use 29 rfl) rfl (leK rfl) (leK rfl) (xf hfl) (by obtain rfl := Option.some.inj h; exact KT_ok ⟨rfl, h_p2, rfl⟩)
  · replace h := ifN h he8
    obtain rfl := Option.some.inj h
    exact KT_thr he8
def fn_Law_use (c0 : Nat) (a1 : Int) (a2 : Int) (c3 : Nat) (S : St) : Option (Int × St) := bnO (fn_FP_use c0 a1 a2 S) fun p1 => if p1.1 = 0 then (nm (ul p1.2.2 c3 0 p1.2.1) fun S2 => some (0, S2)) else (if p1.1 = 1 then (some (1, p1.2.2)) else none)
theorem tf_Law_use {E : EV} {X : XT} (hfl : X.2.2.2 = false) {c0 : Nat} (hc0 : HC X 10 c0) {a1 : Int} (ha1 : inR a1) {a2 : Int} (ha2 : inR a2) {c3 : Nat} (hc3 : HA X 3 1 c3) {S : St} {q : Int × St} (h : fn_Law_use c0 a1 a2 c3 S = some q) : EvH E M_Law_use [.ref c0, V a1, V a2, .ref c3] (WX X S) 1 6 (KI X q.1 q.2) := by
  refine EvH.of pn_Law (leK rfl) ?_
  show Go E M_Law_use 1 6 0 [(0, .ref c0), (1, V a1), (2, V a2), (3, .ref c3)] [] (WX X S) 0 0 (KI X q.1 q.2)
  unfold fn_Law_use at h
  refine g_aloadn (pc := 0) (i0 := 3) (j := 3) (dK D_Law_use 0 rfl) rfl rfl ?_
  refine vg_iconst (pc := 1) (dK D_Law_use 1 rfl) ?_
  refine g_aloadn (pc := 2) (i0 := 0) (j := 0) (dK D_Law_use 2 rfl) rfl rfl ?_
  refine g_iloadn (pc := 3) (i0 := 1) (j := 1) (dK D_Law_use 3 rfl) rfl rfl ?_
  refine g_iloadn (pc := 4) (i0 := 2) (j := 2) (dK D_Law_use 4 rfl) rfl rfl ?_
  refine bnE h (fun p1 e_p1 h => ?_)
  refine vg_cVX hfl (pc := 5) (As := [V a1, V a2]) (rest := [V 0, .ref c3]) (mc' := 1) (ms' := 6) (dK D_Law_use 5 rfl) K_Law_65 (fitK rfl) (ltK rfl) hc0 rfl (leK rfl) (leK rfl) (leK rfl) (tf_FP_use hfl hc0 ha1 ha2 e_p1) (kxT hfl (fun he3 => kxI hfl (fun h_p1 => ?_)) (fun he3 => ?_))
  · replace h := ifP h he3
    refine vg_i2l (pc := 8) (dK D_Law_use 6 rfl) h_p1 ?_
    refine nmE h (fun S2 e_S2 h => ?_)
    refine vg_lastore (pc := 9) (z := p1.2.1) (dK D_Law_use 7 rfl) hc3 rfl ⟨by decide, by decide⟩ rfl e_S2 ?_
    refine g_goto (pc := 10) (tgt := 17) (dK D_Law_use 8 rfl) rfl ?_
    refine vg_iconst (pc := 17) (dK D_Law_use 12 rfl) ?_
    exact vg_iretI (pc := 18) (r := 0) (dK D_Law_use 13 rfl) rfl (leK rfl) (leK rfl) (xf hfl) (by obtain rfl := Option.some.inj h; exact ⟨rfl, (inRk rfl), rfl⟩)
  · replace h := ifN h he3
    by_cases hq4 : p1.1 = 1
    · have h := ifP h hq4
      rw [hq4]
      exact ⟨_, CT_Law_use_5_1, (by obtain rfl := Option.some.inj h; exact ⟨rfl, (inRk rfl), rfl⟩)⟩
    · replace h := ifN h hq4
      exact nomatch h
def lb_FP_clear_80 (c0 : Nat) (a1 : Int) (c2 : Nat) (a3 : Int) (go : Int × St → Option (St)) (a4 : Int) (S : St) : Option (St) := if (g S (tgt c2 0) 7) ≤ a4 then (some S) else (if 0 ≤ a4 ∧ a4 < 40 then (if (g S (tgt (tgt c2 0) 6) a4.toNat) = a1 then (nm (u S (tgt (tgt c2 0) 6) a4.toNat 0) fun S10 => nm (wr (a4 + 1)) fun v11 => go (v11, S10)) else (nm (wr (a4 + 1)) fun v9 => go (v9, S))) else none)
def lo_FP_clear_80 (c0 : Nat) (a1 : Int) (c2 : Nat) (a3 : Int) : Nat → Int × St → Option (St) := lp fun go p => lb_FP_clear_80 c0 a1 c2 a3 go p.1 p.2
theorem tl_FP_clear_80 {E : EV} {X : XT} (hfl : X.2.2.2 = false) {c0 : Nat} (hc0 : HC X 10 c0) {a1 : Int} (ha1 : inR a1) {c2 : Nat} (hc2 : HC X 8 c2) {a3 : Int} (ha3 : inR a3) {K : RK → PS → Prop} {q : St} (hx : Go E M_FP_clear 1 6 123 [(0, .ref c0), (1, V a1), (2, .ref c2), (3, V a3)] [] (WX X q) 1 6 K) : ∀ n a, lo_FP_clear_80 c0 a1 c2 a3 n a = some q → inR a.1 → Go E M_FP_clear 1 6 80 [(0, .ref c0), (1, V a1), (2, .ref c2), (3, V a3), (4, V a.1)] [] (WX X a.2) 1 6 K := by
  refine lp_ind (P := fun a : Int × St => inR a.1 → Go E M_FP_clear 1 6 80 [(0, .ref c0), (1, V a1), (2, .ref c2), (3, V a3), (4, V a.1)] [] (WX X a.2) 1 6 K) (fun go ih a h => ?_)
  obtain ⟨a4, S⟩ := a
  intro ha4
  show Go E M_FP_clear 1 6 80 [(0, .ref c0), (1, V a1), (2, .ref c2), (3, V a3), (4, V a4)] [] (WX X S) 1 6 K
  replace h : lb_FP_clear_80 c0 a1 c2 a3 go a4 S = some q := h
  unfold lb_FP_clear_80 at h
  refine g_iload (pc := 80) (j := 4) (dK D_FP_clear_0 40 rfl) rfl ?_
  refine g_aloadn (pc := 82) (i0 := 2) (j := 2) (dK D_FP_clear_0 41 rfl) rfl rfl ?_
  refine vg_getO (pc := 83) (ci := 8) (f := 0) (dK D_FP_clear_0 42 rfl) q_224 hc2 (ltK rfl) (ltK rfl) rfl ?_
  refine vg_getI (pc := 86) (ci := 0) (f := 7) (dK D_FP_clear_0 43 rfl) q_109 (hw_8_0 hc2) (ltK rfl) (ltK rfl) rfl ?_
  refine vg_icmp_ge (pc := 89) (t := 123) (dK D_FP_clear_0 44 rfl) rfl ha4 (g_in _ _ _) (fun hc13 => ?_) (fun hc13 => ?_)
  · replace h := ifP h hc13
    obtain rfl := Option.some.inj h
    refine gL_weak (ls' := [(0, .ref c0), (1, V a1), (2, .ref c2), (3, V a3)]) (sbc 0 rfl (sbc 1 rfl (sbc 2 rfl (sbc 3 rfl sbn)))) ?_
    exact hx 
  · replace h := ifN h hc13
    refine g_aloadn (pc := 92) (i0 := 2) (j := 2) (dK D_FP_clear_0 45 rfl) rfl rfl ?_
    refine vg_getO (pc := 93) (ci := 8) (f := 0) (dK D_FP_clear_0 46 rfl) q_224 hc2 (ltK rfl) (ltK rfl) rfl ?_
    refine vg_getA (pc := 96) (ci := 0) (f := 6) (dK D_FP_clear_0 47 rfl) q_103 (hw_8_0 hc2) (ltK rfl) (ltK rfl) rfl ?_
    refine g_iload (pc := 99) (j := 4) (dK D_FP_clear_0 48 rfl) rfl ?_
    refine gdE h (fun hi8 h => ?_)
    refine vg_iaload (pc := 101) (j := a4.toNat) (dK D_FP_clear_0 49 rfl) (hw_0_6 (hw_8_0 hc2)) rfl hi8 rfl ?_
    refine g_iloadn (pc := 102) (i0 := 1) (j := 1) (dK D_FP_clear_1 0 rfl) rfl rfl ?_
    refine vg_icmp_ne (pc := 103) (t := 117) (dK D_FP_clear_1 1 rfl) rfl (g_in _ _ _) ha1 (fun hc12 => ?_) (fun hc12 => ?_)
    · replace h := ifN h hc12
      refine nmE h (fun v9 e_v9 h => ?_)
      refine vg_iinc (pc := 117) (j := 4) (a := a4) (z := 1) (ls2 := [(4, V v9), (0, .ref c0), (1, V a1), (2, .ref c2), (3, V a3)]) (dK D_FP_clear_1 8 rfl) rfl e_v9 (ltK rfl) rfl ?_
      refine g_goto (pc := 120) (tgt := 80) (dK D_FP_clear_1 9 rfl) rfl ?_
      refine gL_weak (ls' := [(0, .ref c0), (1, V a1), (2, .ref c2), (3, V a3), (4, V v9)]) (sbc 1 rfl (sbc 2 rfl (sbc 3 rfl (sbc 4 rfl (sbc 0 rfl sbn))))) ?_
      replace h := ih _ h
      exact h (Vn_in e_v9)
    · replace h := ifP h hc12
      refine g_aloadn (pc := 106) (i0 := 2) (j := 2) (dK D_FP_clear_1 2 rfl) rfl rfl ?_
      refine vg_getO (pc := 107) (ci := 8) (f := 0) (dK D_FP_clear_1 3 rfl) q_224 hc2 (ltK rfl) (ltK rfl) rfl ?_
      refine vg_getA (pc := 110) (ci := 0) (f := 6) (dK D_FP_clear_1 4 rfl) q_103 (hw_8_0 hc2) (ltK rfl) (ltK rfl) rfl ?_
      refine g_iload (pc := 113) (j := 4) (dK D_FP_clear_1 5 rfl) rfl ?_
      refine vg_iconst (pc := 115) (dK D_FP_clear_1 6 rfl) ?_
      refine nmE h (fun S10 e_S10 h => ?_)
      refine vg_iastore (pc := 116) (z := 0) (dK D_FP_clear_1 7 rfl) (hw_0_6 (hw_8_0 hc2)) rfl hi8 rfl e_S10 ?_
      refine nmE h (fun v11 e_v11 h => ?_)
      refine vg_iinc (pc := 117) (j := 4) (a := a4) (z := 1) (ls2 := [(4, V v11), (0, .ref c0), (1, V a1), (2, .ref c2), (3, V a3)]) (dK D_FP_clear_1 8 rfl) rfl e_v11 (ltK rfl) rfl ?_
      refine g_goto (pc := 120) (tgt := 80) (dK D_FP_clear_1 9 rfl) rfl ?_
      refine gL_weak (ls' := [(0, .ref c0), (1, V a1), (2, .ref c2), (3, V a3), (4, V v11)]) (sbc 1 rfl (sbc 2 rfl (sbc 3 rfl (sbc 4 rfl (sbc 0 rfl sbn))))) ?_
      replace h := ih _ h
      exact h (Vn_in e_v11)
def lb_FP_clear_126 (c0 : Nat) (a1 : Int) (c2 : Nat) (a3 : Int) (go : Int × St → Option (St)) (a4 : Int) (S : St) : Option (St) := if (g S (tgt c2 2) 2) ≤ a4 then (some S) else (if 0 ≤ a4 ∧ a4 < 8 then (if (g S (tgt (tgt c2 2) 1) a4.toNat) = a1 then (nm (u S (tgt (tgt c2 2) 1) a4.toNat 0) fun S17 => nm (wr (a4 + 1)) fun v18 => go (v18, S17)) else (nm (wr (a4 + 1)) fun v16 => go (v16, S))) else none)
def lo_FP_clear_126 (c0 : Nat) (a1 : Int) (c2 : Nat) (a3 : Int) : Nat → Int × St → Option (St) := lp fun go p => lb_FP_clear_126 c0 a1 c2 a3 go p.1 p.2
theorem tl_FP_clear_126 {E : EV} {X : XT} (hfl : X.2.2.2 = false) {c0 : Nat} (hc0 : HC X 10 c0) {a1 : Int} (ha1 : inR a1) {c2 : Nat} (hc2 : HC X 8 c2) {a3 : Int} (ha3 : inR a3) {K : RK → PS → Prop} {q : St} (hx : Go E M_FP_clear 1 6 169 [(0, .ref c0), (3, V a3)] [] (WX X q) 1 6 K) : ∀ n a, lo_FP_clear_126 c0 a1 c2 a3 n a = some q → inR a.1 → Go E M_FP_clear 1 6 126 [(0, .ref c0), (1, V a1), (2, .ref c2), (3, V a3), (4, V a.1)] [] (WX X a.2) 1 6 K := by
  refine lp_ind (P := fun a : Int × St => inR a.1 → Go E M_FP_clear 1 6 126 [(0, .ref c0), (1, V a1), (2, .ref c2), (3, V a3), (4, V a.1)] [] (WX X a.2) 1 6 K) (fun go ih a h => ?_)
  obtain ⟨a4, S⟩ := a
  intro ha4
  show Go E M_FP_clear 1 6 126 [(0, .ref c0), (1, V a1), (2, .ref c2), (3, V a3), (4, V a4)] [] (WX X S) 1 6 K
  replace h : lb_FP_clear_126 c0 a1 c2 a3 go a4 S = some q := h
  unfold lb_FP_clear_126 at h
  refine g_iload (pc := 126) (j := 4) (dK D_FP_clear_1 12 rfl) rfl ?_
  refine g_aloadn (pc := 128) (i0 := 2) (j := 2) (dK D_FP_clear_1 13 rfl) rfl rfl ?_
  refine vg_getO (pc := 129) (ci := 8) (f := 2) (dK D_FP_clear_1 14 rfl) q_232 hc2 (ltK rfl) (ltK rfl) rfl ?_
  refine vg_getI (pc := 132) (ci := 7) (f := 2) (dK D_FP_clear_1 15 rfl) q_185 (hw_8_2 hc2) (ltK rfl) (ltK rfl) rfl ?_
  refine vg_icmp_ge (pc := 135) (t := 169) (dK D_FP_clear_1 16 rfl) rfl ha4 (g_in _ _ _) (fun hc20 => ?_) (fun hc20 => ?_)
  · replace h := ifP h hc20
    obtain rfl := Option.some.inj h
    refine gL_weak (ls' := [(0, .ref c0), (3, V a3)]) (sbc 0 rfl (sbc 3 rfl sbn)) ?_
    exact hx 
  · replace h := ifN h hc20
    refine g_aloadn (pc := 138) (i0 := 2) (j := 2) (dK D_FP_clear_1 17 rfl) rfl rfl ?_
    refine vg_getO (pc := 139) (ci := 8) (f := 2) (dK D_FP_clear_1 18 rfl) q_232 hc2 (ltK rfl) (ltK rfl) rfl ?_
    refine vg_getA (pc := 142) (ci := 7) (f := 1) (dK D_FP_clear_1 19 rfl) q_182 (hw_8_2 hc2) (ltK rfl) (ltK rfl) rfl ?_
    refine g_iload (pc := 145) (j := 4) (dK D_FP_clear_1 20 rfl) rfl ?_
    refine gdE h (fun hi15 h => ?_)
    refine vg_iaload (pc := 147) (j := a4.toNat) (dK D_FP_clear_1 21 rfl) (hw_7_1 (hw_8_2 hc2)) rfl hi15 rfl ?_
    refine g_iloadn (pc := 148) (i0 := 1) (j := 1) (dK D_FP_clear_1 22 rfl) rfl rfl ?_
    refine vg_icmp_ne (pc := 149) (t := 163) (dK D_FP_clear_1 23 rfl) rfl (g_in _ _ _) ha1 (fun hc19 => ?_) (fun hc19 => ?_)
    · replace h := ifN h hc19
      refine nmE h (fun v16 e_v16 h => ?_)
      refine vg_iinc (pc := 163) (j := 4) (a := a4) (z := 1) (ls2 := [(4, V v16), (0, .ref c0), (1, V a1), (2, .ref c2), (3, V a3)]) (dK D_FP_clear_1 30 rfl) rfl e_v16 (ltK rfl) rfl ?_
      refine g_goto (pc := 166) (tgt := 126) (dK D_FP_clear_1 31 rfl) rfl ?_
      refine gL_weak (ls' := [(0, .ref c0), (1, V a1), (2, .ref c2), (3, V a3), (4, V v16)]) (sbc 1 rfl (sbc 2 rfl (sbc 3 rfl (sbc 4 rfl (sbc 0 rfl sbn))))) ?_
      replace h := ih _ h
      exact h (Vn_in e_v16)
    · replace h := ifP h hc19
      refine g_aloadn (pc := 152) (i0 := 2) (j := 2) (dK D_FP_clear_1 24 rfl) rfl rfl ?_
      refine vg_getO (pc := 153) (ci := 8) (f := 2) (dK D_FP_clear_1 25 rfl) q_232 hc2 (ltK rfl) (ltK rfl) rfl ?_
      refine vg_getA (pc := 156) (ci := 7) (f := 1) (dK D_FP_clear_1 26 rfl) q_182 (hw_8_2 hc2) (ltK rfl) (ltK rfl) rfl ?_
      refine g_iload (pc := 159) (j := 4) (dK D_FP_clear_1 27 rfl) rfl ?_
      refine vg_iconst (pc := 161) (dK D_FP_clear_1 28 rfl) ?_
      refine nmE h (fun S17 e_S17 h => ?_)
      refine vg_iastore (pc := 162) (z := 0) (dK D_FP_clear_1 29 rfl) (hw_7_1 (hw_8_2 hc2)) rfl hi15 rfl e_S17 ?_
      refine nmE h (fun v18 e_v18 h => ?_)
      refine vg_iinc (pc := 163) (j := 4) (a := a4) (z := 1) (ls2 := [(4, V v18), (0, .ref c0), (1, V a1), (2, .ref c2), (3, V a3)]) (dK D_FP_clear_1 30 rfl) rfl e_v18 (ltK rfl) rfl ?_
      refine g_goto (pc := 166) (tgt := 126) (dK D_FP_clear_1 31 rfl) rfl ?_
      refine gL_weak (ls' := [(0, .ref c0), (1, V a1), (2, .ref c2), (3, V a3), (4, V v18)]) (sbc 1 rfl (sbc 2 rfl (sbc 3 rfl (sbc 4 rfl (sbc 0 rfl sbn))))) ?_
      replace h := ih _ h
      exact h (Vn_in e_v18)
def fn_FP_clear (c0 : Nat) (a1 : Int) (S : St) : Option (Nat × Int × St) := bnO (fn_FP_needPage c0 a1 S) fun p1 => if p1 = 0 then (bnO (fn_FP_standing 40 (tgt (tgt (tgt (tgt c0 3) 0) 0) 6) (g S (tgt (tgt (tgt c0 3) 0) 0) 7) a1 S) fun p2 => bnO (fn_FP_standing 8 (tgt (tgt (tgt (tgt c0 3) 0) 2) 1) (g S (tgt (tgt (tgt c0 3) 0) 2) 2) a1 S) fun p3 => nm (wr (p2 + p3)) fun v4 => if v4 = 0 then (some (0, (-4), S)) else (bnO (fn_Plan_isPrinted (tgt c0 3) a1 S) fun p5 => if p5 = true then (some (0, (-4), S)) else (bnO (fn_History_keep (tgt c0 4) (tgt (tgt c0 3) 0) S) fun p7 => bnO (lo_FP_clear_80 c0 a1 (tgt (tgt c0 3) 0) v4 FU (0, p7)) fun p14 => bnO (lo_FP_clear_126 c0 a1 (tgt (tgt c0 3) 0) v4 FU (0, p14)) fun p21 => bnO (fn_Plan_recount (tgt c0 3) p21) fun p22 => some (0, v4, p22)))) else (some (p1, 0, S))
theorem tf_FP_clear {E : EV} {X : XT} (hfl : X.2.2.2 = false) {c0 : Nat} (hc0 : HC X 10 c0) {a1 : Int} (ha1 : inR a1) {S : St} {q : Nat × Int × St} (h : fn_FP_clear c0 a1 S = some q) : Ev E M_FP_clear [.ref c0, V a1] (WX X S) 1 6 (KT X q.1 q.2.2 (KI X q.2.1 q.2.2)) := by
  refine Ev.of pn_FP rfl (leK rfl) ?_
  show Go E M_FP_clear 1 6 0 [(0, .ref c0), (1, V a1)] [] (WX X S) 0 0 (KT X q.1 q.2.2 (KI X q.2.1 q.2.2))
  unfold fn_FP_clear at h
  refine g_aloadn (pc := 0) (i0 := 0) (j := 0) (dK D_FP_clear_0 0 rfl) rfl rfl ?_
  refine g_iloadn (pc := 1) (i0 := 1) (j := 1) (dK D_FP_clear_0 1 rfl) rfl rfl ?_
  refine bnE h (fun p1 e_p1 h => ?_)
  refine vg_cV (pc := 2) (As := [V a1]) (rest := []) (mc' := 1) (ms' := 6) (dK D_FP_clear_0 2 rfl) K_FP_204 (fitK rfl) (ltK rfl) hc0 rfl (leK rfl) (leK rfl) (leK rfl) (tf_FP_needPage hfl hc0 ha1 e_p1) (kcT hfl (fun he24 => kcU ?_) (fun he24 => ⟨rfl, ?_⟩))
  · replace h := ifP h he24
    refine g_aloadn (pc := 5) (i0 := 0) (j := 0) (dK D_FP_clear_0 3 rfl) rfl rfl ?_
    refine vg_getO (pc := 6) (ci := 10) (f := 3) (dK D_FP_clear_0 4 rfl) q_425 hc0 (ltK rfl) (ltK rfl) rfl ?_
    refine vg_getO (pc := 9) (ci := 4) (f := 0) (dK D_FP_clear_0 5 rfl) q_292 (hw_10_3 hc0) (ltK rfl) (ltK rfl) rfl ?_
    refine g_astoren (pc := 12) (i0 := 2) (ls2 := [(2, .ref (tgt (tgt c0 3) 0)), (0, .ref c0), (1, V a1)]) (dK D_FP_clear_0 6 rfl) rfl (ltK rfl) rfl ?_
    refine g_aloadn (pc := 13) (i0 := 2) (j := 0) (dK D_FP_clear_0 7 rfl) rfl rfl ?_
    refine vg_getO (pc := 14) (ci := 8) (f := 0) (dK D_FP_clear_0 8 rfl) q_224 (hw_4_0 (hw_10_3 hc0)) (ltK rfl) (ltK rfl) rfl ?_
    refine vg_getA (pc := 17) (ci := 0) (f := 6) (dK D_FP_clear_0 9 rfl) q_103 (hw_8_0 (hw_4_0 (hw_10_3 hc0))) (ltK rfl) (ltK rfl) rfl ?_
    refine g_aloadn (pc := 20) (i0 := 2) (j := 0) (dK D_FP_clear_0 10 rfl) rfl rfl ?_
    refine vg_getO (pc := 21) (ci := 8) (f := 0) (dK D_FP_clear_0 11 rfl) q_224 (hw_4_0 (hw_10_3 hc0)) (ltK rfl) (ltK rfl) rfl ?_
    refine vg_getI (pc := 24) (ci := 0) (f := 7) (dK D_FP_clear_0 12 rfl) q_109 (hw_8_0 (hw_4_0 (hw_10_3 hc0))) (ltK rfl) (ltK rfl) rfl ?_
    refine g_iloadn (pc := 27) (i0 := 1) (j := 2) (dK D_FP_clear_0 13 rfl) rfl rfl ?_
    refine bnE h (fun p2 e_p2 h => ?_)
    refine vg_cS (pc := 28) (As := [.ref (tgt (tgt (tgt (tgt c0 3) 0) 0) 6), V (g S (tgt (tgt (tgt c0 3) 0) 0) 7), V a1]) (rest := []) (mc' := 0) (ms' := 0) (dK D_FP_clear_0 14 rfl) K_FP_216 (fitK rfl) rfl (leK rfl) (leK rfl) (leK rfl) (tf_FP_standing rfl (hw_0_6 (hw_8_0 (hw_4_0 (hw_10_3 hc0)))) (g_in _ _ _) ha1 e_p2) (kcI (fun h_p2 => ?_))
    refine g_aloadn (pc := 31) (i0 := 2) (j := 0) (dK D_FP_clear_0 15 rfl) rfl rfl ?_
    refine vg_getO (pc := 32) (ci := 8) (f := 2) (dK D_FP_clear_0 16 rfl) q_232 (hw_4_0 (hw_10_3 hc0)) (ltK rfl) (ltK rfl) rfl ?_
    refine vg_getA (pc := 35) (ci := 7) (f := 1) (dK D_FP_clear_0 17 rfl) q_182 (hw_8_2 (hw_4_0 (hw_10_3 hc0))) (ltK rfl) (ltK rfl) rfl ?_
    refine g_aloadn (pc := 38) (i0 := 2) (j := 0) (dK D_FP_clear_0 18 rfl) rfl rfl ?_
    refine vg_getO (pc := 39) (ci := 8) (f := 2) (dK D_FP_clear_0 19 rfl) q_232 (hw_4_0 (hw_10_3 hc0)) (ltK rfl) (ltK rfl) rfl ?_
    refine vg_getI (pc := 42) (ci := 7) (f := 2) (dK D_FP_clear_0 20 rfl) q_185 (hw_8_2 (hw_4_0 (hw_10_3 hc0))) (ltK rfl) (ltK rfl) rfl ?_
    refine g_iloadn (pc := 45) (i0 := 1) (j := 2) (dK D_FP_clear_0 21 rfl) rfl rfl ?_
    refine bnE h (fun p3 e_p3 h => ?_)
    refine vg_cS (pc := 46) (As := [.ref (tgt (tgt (tgt (tgt c0 3) 0) 2) 1), V (g S (tgt (tgt (tgt c0 3) 0) 2) 2), V a1]) (rest := [V p2]) (mc' := 0) (ms' := 0) (dK D_FP_clear_0 22 rfl) K_FP_216 (fitK rfl) rfl (leK rfl) (leK rfl) (leK rfl) (tf_FP_standing rfl (hw_7_1 (hw_8_2 (hw_4_0 (hw_10_3 hc0)))) (g_in _ _ _) ha1 e_p3) (kcI (fun h_p3 => ?_))
    refine vg_iadd (pc := 49) (dK D_FP_clear_0 23 rfl) ?_
    refine nmE h (fun v4 e_v4 h => ?_)
    refine gtop e_v4 ?_
    refine g_istoren (pc := 50) (i0 := 3) (ls2 := [(3, V v4), (2, .ref (tgt (tgt c0 3) 0)), (0, .ref c0), (1, V a1)]) (dK D_FP_clear_0 24 rfl) rfl (ltK rfl) rfl ?_
    refine g_iloadn (pc := 51) (i0 := 3) (j := 0) (dK D_FP_clear_0 25 rfl) rfl rfl ?_
    refine vg_if_eq (pc := 52) (t := 66) (dK D_FP_clear_0 26 rfl) rfl (Vn_in e_v4) (fun hc23 => ?_) (fun hc23 => ?_)
    · replace h := ifP h hc23
      refine vg_bipush (pc := 66) (dK D_FP_clear_0 32 rfl) rfl ?_
      exact vg_iretI (pc := 68) (r := (-4)) (dK D_FP_clear_0 33 rfl) rfl (leK rfl) (leK rfl) (xf hfl) (by obtain rfl := Option.some.inj h; exact KT_ok ⟨rfl, (inRk rfl), rfl⟩)
    · replace h := ifN h hc23
      refine g_aloadn (pc := 55) (i0 := 0) (j := 2) (dK D_FP_clear_0 27 rfl) rfl rfl ?_
      refine vg_getO (pc := 56) (ci := 10) (f := 3) (dK D_FP_clear_0 28 rfl) q_425 hc0 (ltK rfl) (ltK rfl) rfl ?_
      refine g_iloadn (pc := 59) (i0 := 1) (j := 3) (dK D_FP_clear_0 29 rfl) rfl rfl ?_
      refine bnE h (fun p5 e_p5 h => ?_)
      refine vg_cV (pc := 60) (As := [V a1]) (rest := []) (mc' := 0) (ms' := 0) (dK D_FP_clear_0 30 rfl) K_FP_251 (fitK rfl) (ltK rfl) (hw_10_3 hc0) rfl (leK rfl) (leK rfl) (leK rfl) (tf_Plan_isPrinted (hw_10_3 hc0) ha1 e_p5) (kcB ?_)
      refine vg_ifB_eq (pc := 63) (b := p5) (t := 69) (dK D_FP_clear_0 31 rfl) rfl (fun hc6 => ?_) (fun hc6 => ?_)
      · replace h := ifP h hc6
        refine vg_bipush (pc := 66) (dK D_FP_clear_0 32 rfl) rfl ?_
        exact vg_iretI (pc := 68) (r := (-4)) (dK D_FP_clear_0 33 rfl) rfl (leK rfl) (leK rfl) (xf hfl) (by obtain rfl := Option.some.inj h; exact KT_ok ⟨rfl, (inRk rfl), rfl⟩)
      · replace h := ifN h hc6
        refine g_aloadn (pc := 69) (i0 := 0) (j := 2) (dK D_FP_clear_0 34 rfl) rfl rfl ?_
        refine vg_getO (pc := 70) (ci := 10) (f := 4) (dK D_FP_clear_0 35 rfl) q_426 hc0 (ltK rfl) (ltK rfl) rfl ?_
        refine g_aloadn (pc := 73) (i0 := 2) (j := 1) (dK D_FP_clear_0 36 rfl) rfl rfl ?_
        refine bnE h (fun p7 e_p7 h => ?_)
        refine vg_cV (pc := 74) (As := [.ref (tgt (tgt c0 3) 0)]) (rest := []) (mc' := 0) (ms' := 0) (dK D_FP_clear_0 37 rfl) K_FP_155 (fitK rfl) (ltK rfl) (hw_10_4 hc0) rfl (leK rfl) (leK rfl) (leK rfl) (tf_History_keep (hw_10_4 hc0) (hw_4_0 (hw_10_3 hc0)) e_p7) (kcU ?_)
        refine vg_iconst (pc := 77) (dK D_FP_clear_0 38 rfl) ?_
        refine g_istore (pc := 78) (ls2 := [(4, V 0), (3, V v4), (2, .ref (tgt (tgt c0 3) 0)), (0, .ref c0), (1, V a1)]) (dK D_FP_clear_0 39 rfl) (ltK rfl) rfl ?_
        refine bnE h (fun p14 e_p14 h => ?_)
        refine gL_weak (ls' := [(0, .ref c0), (1, V a1), (2, .ref (tgt (tgt c0 3) 0)), (3, V v4), (4, V 0)]) (sbc 3 rfl (sbc 4 rfl (sbc 2 rfl (sbc 1 rfl (sbc 0 rfl sbn))))) ?_
        refine tl_FP_clear_80 hfl hc0 ha1 (hw_4_0 (hw_10_3 hc0)) (Vn_in e_v4) ?_ FU (0, p7) e_p14 (inRk rfl)
        refine vg_iconst (pc := 123) (dK D_FP_clear_1 10 rfl) ?_
        refine g_istore (pc := 124) (ls2 := [(4, V 0), (0, .ref c0), (1, V a1), (2, .ref (tgt (tgt c0 3) 0)), (3, V v4)]) (dK D_FP_clear_1 11 rfl) (ltK rfl) rfl ?_
        refine bnE h (fun p21 e_p21 h => ?_)
        refine gL_weak (ls' := [(0, .ref c0), (1, V a1), (2, .ref (tgt (tgt c0 3) 0)), (3, V v4), (4, V 0)]) (sbc 1 rfl (sbc 2 rfl (sbc 3 rfl (sbc 4 rfl (sbc 0 rfl sbn))))) ?_
        refine tl_FP_clear_126 hfl hc0 ha1 (hw_4_0 (hw_10_3 hc0)) (Vn_in e_v4) ?_ FU (0, p14) e_p21 (inRk rfl)
        refine g_aloadn (pc := 169) (i0 := 0) (j := 0) (dK D_FP_clear_1 32 rfl) rfl rfl ?_
        refine vg_getO (pc := 170) (ci := 10) (f := 3) (dK D_FP_clear_1 33 rfl) q_425 hc0 (ltK rfl) (ltK rfl) rfl ?_
        refine bnE h (fun p22 e_p22 h => ?_)
        refine vg_cV (pc := 173) (As := []) (rest := []) (mc' := 0) (ms' := 0) (dK D_FP_clear_1 34 rfl) K_FP_254 (fitK rfl) (ltK rfl) (hw_10_3 hc0) rfl (leK rfl) (leK rfl) (leK rfl) (tf_Plan_recount (hw_10_3 hc0) e_p22) (kcU ?_)
        refine g_iloadn (pc := 176) (i0 := 3) (j := 1) (dK D_FP_clear_1 35 rfl) rfl rfl ?_
        exact vg_iretI (pc := 177) (r := v4) (dK D_FP_clear_1 36 rfl) rfl (leK rfl) (leK rfl) (xf hfl) (by obtain rfl := Option.some.inj h; exact KT_ok ⟨rfl, (Vn_in e_v4), rfl⟩)
  · replace h := ifN h he24
    obtain rfl := Option.some.inj h
    exact KT_thr he24
def fn_Law_clear (c0 : Nat) (a1 : Int) (c2 : Nat) (S : St) : Option (Int × St) := bnO (fn_FP_clear c0 a1 S) fun p1 => if p1.1 = 0 then (nm (ul p1.2.2 c2 0 p1.2.1) fun S2 => some (0, S2)) else (if p1.1 = 1 then (some (1, p1.2.2)) else none)
theorem tf_Law_clear {E : EV} {X : XT} (hfl : X.2.2.2 = false) {c0 : Nat} (hc0 : HC X 10 c0) {a1 : Int} (ha1 : inR a1) {c2 : Nat} (hc2 : HA X 3 1 c2) {S : St} {q : Int × St} (h : fn_Law_clear c0 a1 c2 S = some q) : EvH E M_Law_clear [.ref c0, V a1, .ref c2] (WX X S) 1 6 (KI X q.1 q.2) := by
  refine EvH.of pn_Law (leK rfl) ?_
  show Go E M_Law_clear 1 6 0 [(0, .ref c0), (1, V a1), (2, .ref c2)] [] (WX X S) 0 0 (KI X q.1 q.2)
  unfold fn_Law_clear at h
  refine g_aloadn (pc := 0) (i0 := 2) (j := 2) (dK D_Law_clear 0 rfl) rfl rfl ?_
  refine vg_iconst (pc := 1) (dK D_Law_clear 1 rfl) ?_
  refine g_aloadn (pc := 2) (i0 := 0) (j := 0) (dK D_Law_clear 2 rfl) rfl rfl ?_
  refine g_iloadn (pc := 3) (i0 := 1) (j := 1) (dK D_Law_clear 3 rfl) rfl rfl ?_
  refine bnE h (fun p1 e_p1 h => ?_)
  refine vg_cVX hfl (pc := 4) (As := [V a1]) (rest := [V 0, .ref c2]) (mc' := 1) (ms' := 6) (dK D_Law_clear 4 rfl) K_Law_68 (fitK rfl) (ltK rfl) hc0 rfl (leK rfl) (leK rfl) (leK rfl) (tf_FP_clear hfl hc0 ha1 e_p1) (kxT hfl (fun he3 => kxI hfl (fun h_p1 => ?_)) (fun he3 => ?_))
  · replace h := ifP h he3
    refine vg_i2l (pc := 7) (dK D_Law_clear 5 rfl) h_p1 ?_
    refine nmE h (fun S2 e_S2 h => ?_)
    refine vg_lastore (pc := 8) (z := p1.2.1) (dK D_Law_clear 6 rfl) hc2 rfl ⟨by decide, by decide⟩ rfl e_S2 ?_
    refine g_goto (pc := 9) (tgt := 15) (dK D_Law_clear 7 rfl) rfl ?_
    refine vg_iconst (pc := 15) (dK D_Law_clear 11 rfl) ?_
    exact vg_iretI (pc := 16) (r := 0) (dK D_Law_clear 12 rfl) rfl (leK rfl) (leK rfl) (xf hfl) (by obtain rfl := Option.some.inj h; exact ⟨rfl, (inRk rfl), rfl⟩)
  · replace h := ifN h he3
    by_cases hq4 : p1.1 = 1
    · have h := ifP h hq4
      rw [hq4]
      exact ⟨_, CT_Law_clear_4_1, (by obtain rfl := Option.some.inj h; exact ⟨rfl, (inRk rfl), rfl⟩)⟩
    · replace h := ifN h hq4
      exact nomatch h
def lb_FP_exchange_45 (c0 : Nat) (a1 : Int) (a2 : Int) (a3 : Int) (c4 : Nat) (go : Int × St → Option (St)) (a5 : Int) (S : St) : Option (St) := if (g S (tgt c4 0) 7) ≤ a5 then (some S) else (if 0 ≤ a5 ∧ a5 < 40 then (bnO (fn_Plan_exchanged (g S (tgt (tgt c4 0) 6) a5.toNat) a1 a2 S) fun p6 => nm (u S (tgt (tgt c4 0) 6) a5.toNat p6) fun S7 => nm (wr (a5 + 1)) fun v8 => go (v8, S7)) else none)
def lo_FP_exchange_45 (c0 : Nat) (a1 : Int) (a2 : Int) (a3 : Int) (c4 : Nat) : Nat → Int × St → Option (St) := lp fun go p => lb_FP_exchange_45 c0 a1 a2 a3 c4 go p.1 p.2
theorem tl_FP_exchange_45 {E : EV} {X : XT} (hfl : X.2.2.2 = false) {c0 : Nat} (hc0 : HC X 10 c0) {a1 : Int} (ha1 : inR a1) {a2 : Int} (ha2 : inR a2) {a3 : Int} (ha3 : inR a3) {c4 : Nat} (hc4 : HC X 8 c4) {K : RK → PS → Prop} {q : St} (hx : Go E M_FP_exchange 2 12 91 [(0, .ref c0), (1, V a1), (2, V a2), (3, V a3), (4, .ref c4)] [] (WX X q) 2 12 K) : ∀ n a, lo_FP_exchange_45 c0 a1 a2 a3 c4 n a = some q → inR a.1 → Go E M_FP_exchange 2 12 45 [(0, .ref c0), (1, V a1), (2, V a2), (3, V a3), (4, .ref c4), (5, V a.1)] [] (WX X a.2) 2 12 K := by
  refine lp_ind (P := fun a : Int × St => inR a.1 → Go E M_FP_exchange 2 12 45 [(0, .ref c0), (1, V a1), (2, V a2), (3, V a3), (4, .ref c4), (5, V a.1)] [] (WX X a.2) 2 12 K) (fun go ih a h => ?_)
  obtain ⟨a5, S⟩ := a
  intro ha5
  show Go E M_FP_exchange 2 12 45 [(0, .ref c0), (1, V a1), (2, V a2), (3, V a3), (4, .ref c4), (5, V a5)] [] (WX X S) 2 12 K
  replace h : lb_FP_exchange_45 c0 a1 a2 a3 c4 go a5 S = some q := h
  unfold lb_FP_exchange_45 at h
  refine g_iload (pc := 45) (j := 5) (dK D_FP_exchange_0 24 rfl) rfl ?_
  refine g_aload (pc := 47) (j := 4) (dK D_FP_exchange_0 25 rfl) rfl ?_
  refine vg_getO (pc := 49) (ci := 8) (f := 0) (dK D_FP_exchange_0 26 rfl) q_224 hc4 (ltK rfl) (ltK rfl) rfl ?_
  refine vg_getI (pc := 52) (ci := 0) (f := 7) (dK D_FP_exchange_0 27 rfl) q_109 (hw_8_0 hc4) (ltK rfl) (ltK rfl) rfl ?_
  refine vg_icmp_ge (pc := 55) (t := 91) (dK D_FP_exchange_0 28 rfl) rfl ha5 (g_in _ _ _) (fun hc9 => ?_) (fun hc9 => ?_)
  · replace h := ifP h hc9
    obtain rfl := Option.some.inj h
    refine gL_weak (ls' := [(0, .ref c0), (1, V a1), (2, V a2), (3, V a3), (4, .ref c4)]) (sbc 0 rfl (sbc 1 rfl (sbc 2 rfl (sbc 3 rfl (sbc 4 rfl sbn))))) ?_
    exact hx 
  · replace h := ifN h hc9
    refine g_aload (pc := 58) (j := 4) (dK D_FP_exchange_0 29 rfl) rfl ?_
    refine vg_getO (pc := 60) (ci := 8) (f := 0) (dK D_FP_exchange_0 30 rfl) q_224 hc4 (ltK rfl) (ltK rfl) rfl ?_
    refine vg_getA (pc := 63) (ci := 0) (f := 6) (dK D_FP_exchange_0 31 rfl) q_103 (hw_8_0 hc4) (ltK rfl) (ltK rfl) rfl ?_
    refine g_iload (pc := 66) (j := 5) (dK D_FP_exchange_0 32 rfl) rfl ?_
    refine g_aload (pc := 68) (j := 4) (dK D_FP_exchange_0 33 rfl) rfl ?_
    refine vg_getO (pc := 70) (ci := 8) (f := 0) (dK D_FP_exchange_0 34 rfl) q_224 hc4 (ltK rfl) (ltK rfl) rfl ?_
    refine vg_getA (pc := 73) (ci := 0) (f := 6) (dK D_FP_exchange_0 35 rfl) q_103 (hw_8_0 hc4) (ltK rfl) (ltK rfl) rfl ?_
    refine g_iload (pc := 76) (j := 5) (dK D_FP_exchange_0 36 rfl) rfl ?_
    refine gdE h (fun hi5 h => ?_)
    refine vg_iaload (pc := 78) (j := a5.toNat) (dK D_FP_exchange_0 37 rfl) (hw_0_6 (hw_8_0 hc4)) rfl hi5 rfl ?_
    refine g_iloadn (pc := 79) (i0 := 1) (j := 1) (dK D_FP_exchange_0 38 rfl) rfl rfl ?_
    refine g_iloadn (pc := 80) (i0 := 2) (j := 2) (dK D_FP_exchange_0 39 rfl) rfl rfl ?_
    refine bnE h (fun p6 e_p6 h => ?_)
    refine vg_cS (pc := 81) (As := [V (g S (tgt (tgt c4 0) 6) a5.toNat), V a1, V a2]) (rest := [V a5, .ref (tgt (tgt c4 0) 6)]) (mc' := 0) (ms' := 0) (dK D_FP_exchange_0 40 rfl) K_FP_266 (fitK rfl) rfl (leK rfl) (leK rfl) (leK rfl) (tf_Plan_exchanged (g_in _ _ _) ha1 ha2 e_p6) (kcI (fun h_p6 => ?_))
    refine nmE h (fun S7 e_S7 h => ?_)
    refine vg_iastore (pc := 84) (z := p6) (dK D_FP_exchange_0 41 rfl) (hw_0_6 (hw_8_0 hc4)) rfl hi5 rfl e_S7 ?_
    refine nmE h (fun v8 e_v8 h => ?_)
    refine vg_iinc (pc := 85) (j := 5) (a := a5) (z := 1) (ls2 := [(5, V v8), (0, .ref c0), (1, V a1), (2, V a2), (3, V a3), (4, .ref c4)]) (dK D_FP_exchange_0 42 rfl) rfl e_v8 (ltK rfl) rfl ?_
    refine g_goto (pc := 88) (tgt := 45) (dK D_FP_exchange_0 43 rfl) rfl ?_
    refine gL_weak (ls' := [(0, .ref c0), (1, V a1), (2, V a2), (3, V a3), (4, .ref c4), (5, V v8)]) (sbc 1 rfl (sbc 2 rfl (sbc 3 rfl (sbc 4 rfl (sbc 5 rfl (sbc 0 rfl sbn)))))) ?_
    replace h := ih _ h
    exact h (Vn_in e_v8)
def lb_FP_exchange_94 (c0 : Nat) (a1 : Int) (a2 : Int) (a3 : Int) (c4 : Nat) (go : Int × St → Option (St)) (a5 : Int) (S : St) : Option (St) := if (g S (tgt c4 2) 2) ≤ a5 then (some S) else (if 0 ≤ a5 ∧ a5 < 8 then (bnO (fn_Plan_exchanged (g S (tgt (tgt c4 2) 1) a5.toNat) a1 a2 S) fun p12 => nm (u S (tgt (tgt c4 2) 1) a5.toNat p12) fun S13 => nm (wr (a5 + 1)) fun v14 => go (v14, S13)) else none)
def lo_FP_exchange_94 (c0 : Nat) (a1 : Int) (a2 : Int) (a3 : Int) (c4 : Nat) : Nat → Int × St → Option (St) := lp fun go p => lb_FP_exchange_94 c0 a1 a2 a3 c4 go p.1 p.2
theorem tl_FP_exchange_94 {E : EV} {X : XT} (hfl : X.2.2.2 = false) {c0 : Nat} (hc0 : HC X 10 c0) {a1 : Int} (ha1 : inR a1) {a2 : Int} (ha2 : inR a2) {a3 : Int} (ha3 : inR a3) {c4 : Nat} (hc4 : HC X 8 c4) {K : RK → PS → Prop} {q : St} (hx : Go E M_FP_exchange 2 12 140 [(0, .ref c0), (3, V a3)] [] (WX X q) 2 12 K) : ∀ n a, lo_FP_exchange_94 c0 a1 a2 a3 c4 n a = some q → inR a.1 → Go E M_FP_exchange 2 12 94 [(0, .ref c0), (1, V a1), (2, V a2), (3, V a3), (4, .ref c4), (5, V a.1)] [] (WX X a.2) 2 12 K := by
  refine lp_ind (P := fun a : Int × St => inR a.1 → Go E M_FP_exchange 2 12 94 [(0, .ref c0), (1, V a1), (2, V a2), (3, V a3), (4, .ref c4), (5, V a.1)] [] (WX X a.2) 2 12 K) (fun go ih a h => ?_)
  obtain ⟨a5, S⟩ := a
  intro ha5
  show Go E M_FP_exchange 2 12 94 [(0, .ref c0), (1, V a1), (2, V a2), (3, V a3), (4, .ref c4), (5, V a5)] [] (WX X S) 2 12 K
  replace h : lb_FP_exchange_94 c0 a1 a2 a3 c4 go a5 S = some q := h
  unfold lb_FP_exchange_94 at h
  refine g_iload (pc := 94) (j := 5) (dK D_FP_exchange_0 46 rfl) rfl ?_
  refine g_aload (pc := 96) (j := 4) (dK D_FP_exchange_0 47 rfl) rfl ?_
  refine vg_getO (pc := 98) (ci := 8) (f := 2) (dK D_FP_exchange_0 48 rfl) q_232 hc4 (ltK rfl) (ltK rfl) rfl ?_
  refine vg_getI (pc := 101) (ci := 7) (f := 2) (dK D_FP_exchange_0 49 rfl) q_185 (hw_8_2 hc4) (ltK rfl) (ltK rfl) rfl ?_
  refine vg_icmp_ge (pc := 104) (t := 140) (dK D_FP_exchange_1 0 rfl) rfl ha5 (g_in _ _ _) (fun hc15 => ?_) (fun hc15 => ?_)
  · replace h := ifP h hc15
    obtain rfl := Option.some.inj h
    refine gL_weak (ls' := [(0, .ref c0), (3, V a3)]) (sbc 0 rfl (sbc 3 rfl sbn)) ?_
    exact hx 
  · replace h := ifN h hc15
    refine g_aload (pc := 107) (j := 4) (dK D_FP_exchange_1 1 rfl) rfl ?_
    refine vg_getO (pc := 109) (ci := 8) (f := 2) (dK D_FP_exchange_1 2 rfl) q_232 hc4 (ltK rfl) (ltK rfl) rfl ?_
    refine vg_getA (pc := 112) (ci := 7) (f := 1) (dK D_FP_exchange_1 3 rfl) q_182 (hw_8_2 hc4) (ltK rfl) (ltK rfl) rfl ?_
    refine g_iload (pc := 115) (j := 5) (dK D_FP_exchange_1 4 rfl) rfl ?_
    refine g_aload (pc := 117) (j := 4) (dK D_FP_exchange_1 5 rfl) rfl ?_
    refine vg_getO (pc := 119) (ci := 8) (f := 2) (dK D_FP_exchange_1 6 rfl) q_232 hc4 (ltK rfl) (ltK rfl) rfl ?_
    refine vg_getA (pc := 122) (ci := 7) (f := 1) (dK D_FP_exchange_1 7 rfl) q_182 (hw_8_2 hc4) (ltK rfl) (ltK rfl) rfl ?_
    refine g_iload (pc := 125) (j := 5) (dK D_FP_exchange_1 8 rfl) rfl ?_
    refine gdE h (fun hi11 h => ?_)
    refine vg_iaload (pc := 127) (j := a5.toNat) (dK D_FP_exchange_1 9 rfl) (hw_7_1 (hw_8_2 hc4)) rfl hi11 rfl ?_
    refine g_iloadn (pc := 128) (i0 := 1) (j := 1) (dK D_FP_exchange_1 10 rfl) rfl rfl ?_
    refine g_iloadn (pc := 129) (i0 := 2) (j := 2) (dK D_FP_exchange_1 11 rfl) rfl rfl ?_
    refine bnE h (fun p12 e_p12 h => ?_)
    refine vg_cS (pc := 130) (As := [V (g S (tgt (tgt c4 2) 1) a5.toNat), V a1, V a2]) (rest := [V a5, .ref (tgt (tgt c4 2) 1)]) (mc' := 0) (ms' := 0) (dK D_FP_exchange_1 12 rfl) K_FP_266 (fitK rfl) rfl (leK rfl) (leK rfl) (leK rfl) (tf_Plan_exchanged (g_in _ _ _) ha1 ha2 e_p12) (kcI (fun h_p12 => ?_))
    refine nmE h (fun S13 e_S13 h => ?_)
    refine vg_iastore (pc := 133) (z := p12) (dK D_FP_exchange_1 13 rfl) (hw_7_1 (hw_8_2 hc4)) rfl hi11 rfl e_S13 ?_
    refine nmE h (fun v14 e_v14 h => ?_)
    refine vg_iinc (pc := 134) (j := 5) (a := a5) (z := 1) (ls2 := [(5, V v14), (0, .ref c0), (1, V a1), (2, V a2), (3, V a3), (4, .ref c4)]) (dK D_FP_exchange_1 14 rfl) rfl e_v14 (ltK rfl) rfl ?_
    refine g_goto (pc := 137) (tgt := 94) (dK D_FP_exchange_1 15 rfl) rfl ?_
    refine gL_weak (ls' := [(0, .ref c0), (1, V a1), (2, V a2), (3, V a3), (4, .ref c4), (5, V v14)]) (sbc 1 rfl (sbc 2 rfl (sbc 3 rfl (sbc 4 rfl (sbc 5 rfl (sbc 0 rfl sbn)))))) ?_
    replace h := ih _ h
    exact h (Vn_in e_v14)
def fn_FP_exchange (c0 : Nat) (a1 : Int) (a2 : Int) (S : St) : Option (Nat × Int × St) := bnO (fn_FP_needPage c0 a1 S) fun p1 => if p1 = 0 then (bnO (fn_FP_needPage c0 a2 S) fun p2 => if p2 = 0 then (bnO (fn_Plan_exchangeReason (tgt c0 3) a1 a2 S) fun p3 => if p3 = 0 then (bnO (fn_History_keep (tgt c0 4) (tgt (tgt c0 3) 0) S) fun p4 => bnO (lo_FP_exchange_45 c0 a1 a2 p3 (tgt (tgt c0 3) 0) FU (0, p4)) fun p10 => bnO (lo_FP_exchange_94 c0 a1 a2 p3 (tgt (tgt c0 3) 0) FU (0, p10)) fun p16 => bnO (fn_Plan_recount (tgt c0 3) p16) fun p17 => some (0, p3, p17)) else (some (0, p3, S))) else (some (p2, 0, S))) else (some (p1, 0, S))
theorem tf_FP_exchange {E : EV} {X : XT} (hfl : X.2.2.2 = false) {c0 : Nat} (hc0 : HC X 10 c0) {a1 : Int} (ha1 : inR a1) {a2 : Int} (ha2 : inR a2) {S : St} {q : Nat × Int × St} (h : fn_FP_exchange c0 a1 a2 S = some q) : Ev E M_FP_exchange [.ref c0, V a1, V a2] (WX X S) 2 12 (KT X q.1 q.2.2 (KI X q.2.1 q.2.2)) := by
  refine Ev.of pn_FP rfl (leK rfl) ?_
  show Go E M_FP_exchange 2 12 0 [(0, .ref c0), (1, V a1), (2, V a2)] [] (WX X S) 0 0 (KT X q.1 q.2.2 (KI X q.2.1 q.2.2))
  unfold fn_FP_exchange at h
  refine g_aloadn (pc := 0) (i0 := 0) (j := 0) (dK D_FP_exchange_0 0 rfl) rfl rfl ?_
  refine g_iloadn (pc := 1) (i0 := 1) (j := 1) (dK D_FP_exchange_0 1 rfl) rfl rfl ?_
  refine bnE h (fun p1 e_p1 h => ?_)
  refine vg_cV (pc := 2) (As := [V a1]) (rest := []) (mc' := 1) (ms' := 6) (dK D_FP_exchange_0 2 rfl) K_FP_204 (fitK rfl) (ltK rfl) hc0 rfl (leK rfl) (leK rfl) (leK rfl) (tf_FP_needPage hfl hc0 ha1 e_p1) (kcT hfl (fun he20 => kcU ?_) (fun he20 => ⟨rfl, ?_⟩))
  · replace h := ifP h he20
    refine g_aloadn (pc := 5) (i0 := 0) (j := 0) (dK D_FP_exchange_0 3 rfl) rfl rfl ?_
    refine g_iloadn (pc := 6) (i0 := 2) (j := 2) (dK D_FP_exchange_0 4 rfl) rfl rfl ?_
    refine bnE h (fun p2 e_p2 h => ?_)
    refine vg_cV (pc := 7) (As := [V a2]) (rest := []) (mc' := 1) (ms' := 6) (dK D_FP_exchange_0 5 rfl) K_FP_204 (fitK rfl) (ltK rfl) hc0 rfl (leK rfl) (leK rfl) (leK rfl) (tf_FP_needPage hfl hc0 ha2 e_p2) (kcT hfl (fun he19 => kcU ?_) (fun he19 => ⟨rfl, ?_⟩))
    · replace h := ifP h he19
      refine g_aloadn (pc := 10) (i0 := 0) (j := 0) (dK D_FP_exchange_0 6 rfl) rfl rfl ?_
      refine vg_getO (pc := 11) (ci := 10) (f := 3) (dK D_FP_exchange_0 7 rfl) q_425 hc0 (ltK rfl) (ltK rfl) rfl ?_
      refine g_iloadn (pc := 14) (i0 := 1) (j := 1) (dK D_FP_exchange_0 8 rfl) rfl rfl ?_
      refine g_iloadn (pc := 15) (i0 := 2) (j := 2) (dK D_FP_exchange_0 9 rfl) rfl rfl ?_
      refine bnE h (fun p3 e_p3 h => ?_)
      refine vg_cV (pc := 16) (As := [V a1, V a2]) (rest := []) (mc' := 0) (ms' := 0) (dK D_FP_exchange_0 10 rfl) K_FP_263 (fitK rfl) (ltK rfl) (hw_10_3 hc0) rfl (leK rfl) (leK rfl) (leK rfl) (tf_Plan_exchangeReason (hw_10_3 hc0) ha1 ha2 e_p3) (kcI (fun h_p3 => ?_))
      refine g_istoren (pc := 19) (i0 := 3) (ls2 := [(3, V p3), (0, .ref c0), (1, V a1), (2, V a2)]) (dK D_FP_exchange_0 11 rfl) rfl (ltK rfl) rfl ?_
      refine g_iloadn (pc := 20) (i0 := 3) (j := 0) (dK D_FP_exchange_0 12 rfl) rfl rfl ?_
      refine vg_if_ne (pc := 21) (t := 147) (dK D_FP_exchange_0 13 rfl) rfl h_p3 (fun hc18 => ?_) (fun hc18 => ?_)
      · replace h := ifN h hc18
        refine g_iloadn (pc := 147) (i0 := 3) (j := 0) (dK D_FP_exchange_1 19 rfl) rfl rfl ?_
        exact vg_iretI (pc := 148) (r := p3) (dK D_FP_exchange_1 20 rfl) rfl (leK rfl) (leK rfl) (xf hfl) (by obtain rfl := Option.some.inj h; exact KT_ok ⟨rfl, h_p3, rfl⟩)
      · replace h := ifP h hc18
        refine g_aloadn (pc := 24) (i0 := 0) (j := 1) (dK D_FP_exchange_0 14 rfl) rfl rfl ?_
        refine vg_getO (pc := 25) (ci := 10) (f := 3) (dK D_FP_exchange_0 15 rfl) q_425 hc0 (ltK rfl) (ltK rfl) rfl ?_
        refine vg_getO (pc := 28) (ci := 4) (f := 0) (dK D_FP_exchange_0 16 rfl) q_292 (hw_10_3 hc0) (ltK rfl) (ltK rfl) rfl ?_
        refine g_astore (pc := 31) (ls2 := [(4, .ref (tgt (tgt c0 3) 0)), (3, V p3), (0, .ref c0), (1, V a1), (2, V a2)]) (dK D_FP_exchange_0 17 rfl) (ltK rfl) rfl ?_
        refine g_aloadn (pc := 33) (i0 := 0) (j := 2) (dK D_FP_exchange_0 18 rfl) rfl rfl ?_
        refine vg_getO (pc := 34) (ci := 10) (f := 4) (dK D_FP_exchange_0 19 rfl) q_426 hc0 (ltK rfl) (ltK rfl) rfl ?_
        refine g_aload (pc := 37) (j := 0) (dK D_FP_exchange_0 20 rfl) rfl ?_
        refine bnE h (fun p4 e_p4 h => ?_)
        refine vg_cV (pc := 39) (As := [.ref (tgt (tgt c0 3) 0)]) (rest := []) (mc' := 0) (ms' := 0) (dK D_FP_exchange_0 21 rfl) K_FP_155 (fitK rfl) (ltK rfl) (hw_10_4 hc0) rfl (leK rfl) (leK rfl) (leK rfl) (tf_History_keep (hw_10_4 hc0) (hw_4_0 (hw_10_3 hc0)) e_p4) (kcU ?_)
        refine vg_iconst (pc := 42) (dK D_FP_exchange_0 22 rfl) ?_
        refine g_istore (pc := 43) (ls2 := [(5, V 0), (4, .ref (tgt (tgt c0 3) 0)), (3, V p3), (0, .ref c0), (1, V a1), (2, V a2)]) (dK D_FP_exchange_0 23 rfl) (ltK rfl) rfl ?_
        refine bnE h (fun p10 e_p10 h => ?_)
        refine gL_weak (ls' := [(0, .ref c0), (1, V a1), (2, V a2), (3, V p3), (4, .ref (tgt (tgt c0 3) 0)), (5, V 0)]) (sbc 3 rfl (sbc 4 rfl (sbc 5 rfl (sbc 2 rfl (sbc 1 rfl (sbc 0 rfl sbn)))))) ?_
        refine tl_FP_exchange_45 hfl hc0 ha1 ha2 h_p3 (hw_4_0 (hw_10_3 hc0)) ?_ FU (0, p4) e_p10 (inRk rfl)
        refine vg_iconst (pc := 91) (dK D_FP_exchange_0 44 rfl) ?_
        refine g_istore (pc := 92) (ls2 := [(5, V 0), (0, .ref c0), (1, V a1), (2, V a2), (3, V p3), (4, .ref (tgt (tgt c0 3) 0))]) (dK D_FP_exchange_0 45 rfl) (ltK rfl) rfl ?_
        refine bnE h (fun p16 e_p16 h => ?_)
        refine gL_weak (ls' := [(0, .ref c0), (1, V a1), (2, V a2), (3, V p3), (4, .ref (tgt (tgt c0 3) 0)), (5, V 0)]) (sbc 1 rfl (sbc 2 rfl (sbc 3 rfl (sbc 4 rfl (sbc 5 rfl (sbc 0 rfl sbn)))))) ?_
        refine tl_FP_exchange_94 hfl hc0 ha1 ha2 h_p3 (hw_4_0 (hw_10_3 hc0)) ?_ FU (0, p10) e_p16 (inRk rfl)
        refine g_aloadn (pc := 140) (i0 := 0) (j := 0) (dK D_FP_exchange_1 16 rfl) rfl rfl ?_
        refine vg_getO (pc := 141) (ci := 10) (f := 3) (dK D_FP_exchange_1 17 rfl) q_425 hc0 (ltK rfl) (ltK rfl) rfl ?_
        refine bnE h (fun p17 e_p17 h => ?_)
        refine vg_cV (pc := 144) (As := []) (rest := []) (mc' := 0) (ms' := 0) (dK D_FP_exchange_1 18 rfl) K_FP_254 (fitK rfl) (ltK rfl) (hw_10_3 hc0) rfl (leK rfl) (leK rfl) (leK rfl) (tf_Plan_recount (hw_10_3 hc0) e_p17) (kcU ?_)
        refine g_iloadn (pc := 147) (i0 := 3) (j := 1) (dK D_FP_exchange_1 19 rfl) rfl rfl ?_
        exact vg_iretI (pc := 148) (r := p3) (dK D_FP_exchange_1 20 rfl) rfl (leK rfl) (leK rfl) (xf hfl) (by obtain rfl := Option.some.inj h; exact KT_ok ⟨rfl, h_p3, rfl⟩)
    · replace h := ifN h he19
      obtain rfl := Option.some.inj h
      exact KT_thr he19
  · replace h := ifN h he20
    obtain rfl := Option.some.inj h
    exact KT_thr he20
def fn_Law_exchange (c0 : Nat) (a1 : Int) (a2 : Int) (c3 : Nat) (S : St) : Option (Int × St) := bnO (fn_FP_exchange c0 a1 a2 S) fun p1 => if p1.1 = 0 then (nm (ul p1.2.2 c3 0 p1.2.1) fun S2 => some (0, S2)) else (if p1.1 = 1 then (some (1, p1.2.2)) else none)
theorem tf_Law_exchange {E : EV} {X : XT} (hfl : X.2.2.2 = false) {c0 : Nat} (hc0 : HC X 10 c0) {a1 : Int} (ha1 : inR a1) {a2 : Int} (ha2 : inR a2) {c3 : Nat} (hc3 : HA X 3 1 c3) {S : St} {q : Int × St} (h : fn_Law_exchange c0 a1 a2 c3 S = some q) : EvH E M_Law_exchange [.ref c0, V a1, V a2, .ref c3] (WX X S) 2 12 (KI X q.1 q.2) := by
  refine EvH.of pn_Law (leK rfl) ?_
  show Go E M_Law_exchange 2 12 0 [(0, .ref c0), (1, V a1), (2, V a2), (3, .ref c3)] [] (WX X S) 0 0 (KI X q.1 q.2)
  unfold fn_Law_exchange at h
  refine g_aloadn (pc := 0) (i0 := 3) (j := 3) (dK D_Law_exchange 0 rfl) rfl rfl ?_
  refine vg_iconst (pc := 1) (dK D_Law_exchange 1 rfl) ?_
  refine g_aloadn (pc := 2) (i0 := 0) (j := 0) (dK D_Law_exchange 2 rfl) rfl rfl ?_
  refine g_iloadn (pc := 3) (i0 := 1) (j := 1) (dK D_Law_exchange 3 rfl) rfl rfl ?_
  refine g_iloadn (pc := 4) (i0 := 2) (j := 2) (dK D_Law_exchange 4 rfl) rfl rfl ?_
  refine bnE h (fun p1 e_p1 h => ?_)
  refine vg_cVX hfl (pc := 5) (As := [V a1, V a2]) (rest := [V 0, .ref c3]) (mc' := 2) (ms' := 12) (dK D_Law_exchange 5 rfl) K_Law_72 (fitK rfl) (ltK rfl) hc0 rfl (leK rfl) (leK rfl) (leK rfl) (tf_FP_exchange hfl hc0 ha1 ha2 e_p1) (kxT hfl (fun he3 => kxI hfl (fun h_p1 => ?_)) (fun he3 => ?_))
  · replace h := ifP h he3
    refine vg_i2l (pc := 8) (dK D_Law_exchange 6 rfl) h_p1 ?_
    refine nmE h (fun S2 e_S2 h => ?_)
    refine vg_lastore (pc := 9) (z := p1.2.1) (dK D_Law_exchange 7 rfl) hc3 rfl ⟨by decide, by decide⟩ rfl e_S2 ?_
    refine g_goto (pc := 10) (tgt := 17) (dK D_Law_exchange 8 rfl) rfl ?_
    refine vg_iconst (pc := 17) (dK D_Law_exchange 12 rfl) ?_
    exact vg_iretI (pc := 18) (r := 0) (dK D_Law_exchange 13 rfl) rfl (leK rfl) (leK rfl) (xf hfl) (by obtain rfl := Option.some.inj h; exact ⟨rfl, (inRk rfl), rfl⟩)
  · replace h := ifN h he3
    by_cases hq4 : p1.1 = 1
    · have h := ifP h hq4
      rw [hq4]
      exact ⟨_, CT_Law_exchange_5_1, (by obtain rfl := Option.some.inj h; exact ⟨rfl, (inRk rfl), rfl⟩)⟩
    · replace h := ifN h hq4
      exact nomatch h
def fn_FP_setColor (c0 : Nat) (a1 : Int) (a2 : Int) (S : St) : Option (Nat × Bool × St) := bnO (fn_FP_needForm c0 a1 S) fun p1 => if p1 = 0 then (if 0 ≤ a1 ∧ a1 < 8 then (if (g S (tgt (tgt (tgt (tgt c0 3) 0) 3) 1) a1.toNat) = 1 then (some (0, false, S)) else (if a2 = 0 then (bnO (fn_Plan_hasColorItem (tgt c0 3) a1 S) fun p7 => if p7 = true then (some (0, false, S)) else (bnO (fn_History_keep (tgt c0 4) (tgt (tgt c0 3) 0) S) fun p9 => if a2 = 0 then (nm (u p9 (tgt (tgt (tgt (tgt c0 3) 0) 3) 0) a1.toNat 0) fun S10 => some (0, true, S10)) else (nm (u p9 (tgt (tgt (tgt (tgt c0 3) 0) 3) 0) a1.toNat 1) fun S11 => some (0, true, S11)))) else (bnO (fn_History_keep (tgt c0 4) (tgt (tgt c0 3) 0) S) fun p3 => if a2 = 0 then (nm (u p3 (tgt (tgt (tgt (tgt c0 3) 0) 3) 0) a1.toNat 0) fun S4 => some (0, true, S4)) else (nm (u p3 (tgt (tgt (tgt (tgt c0 3) 0) 3) 0) a1.toNat 1) fun S5 => some (0, true, S5))))) else none) else (some (p1, false, S))
theorem tf_FP_setColor {E : EV} {X : XT} (hfl : X.2.2.2 = false) {c0 : Nat} (hc0 : HC X 10 c0) {a1 : Int} (ha1 : inR a1) {a2 : Int} (ha2 : inR a2) {S : St} {q : Nat × Bool × St} (h : fn_FP_setColor c0 a1 a2 S = some q) : Ev E M_FP_setColor [.ref c0, V a1, V a2] (WX X S) 1 6 (KT X q.1 q.2.2 (KB X q.2.1 q.2.2)) := by
  refine Ev.of pn_FP rfl (leK rfl) ?_
  show Go E M_FP_setColor 1 6 0 [(0, .ref c0), (1, V a1), (2, V a2)] [] (WX X S) 0 0 (KT X q.1 q.2.2 (KB X q.2.1 q.2.2))
  unfold fn_FP_setColor at h
  refine g_aloadn (pc := 0) (i0 := 0) (j := 0) (dK D_FP_setColor 0 rfl) rfl rfl ?_
  refine g_iloadn (pc := 1) (i0 := 1) (j := 1) (dK D_FP_setColor 1 rfl) rfl rfl ?_
  refine bnE h (fun p1 e_p1 h => ?_)
  refine vg_cV (pc := 2) (As := [V a1]) (rest := []) (mc' := 1) (ms' := 6) (dK D_FP_setColor 2 rfl) K_FP_223 (fitK rfl) (ltK rfl) hc0 rfl (leK rfl) (leK rfl) (leK rfl) (tf_FP_needForm hfl hc0 ha1 e_p1) (kcT hfl (fun he15 => kcU ?_) (fun he15 => ⟨rfl, ?_⟩))
  · replace h := ifP h he15
    refine g_aloadn (pc := 5) (i0 := 0) (j := 0) (dK D_FP_setColor 3 rfl) rfl rfl ?_
    refine vg_getO (pc := 6) (ci := 10) (f := 3) (dK D_FP_setColor 4 rfl) q_425 hc0 (ltK rfl) (ltK rfl) rfl ?_
    refine vg_getO (pc := 9) (ci := 4) (f := 0) (dK D_FP_setColor 5 rfl) q_292 (hw_10_3 hc0) (ltK rfl) (ltK rfl) rfl ?_
    refine vg_getO (pc := 12) (ci := 8) (f := 3) (dK D_FP_setColor 6 rfl) q_237 (hw_4_0 (hw_10_3 hc0)) (ltK rfl) (ltK rfl) rfl ?_
    refine g_astoren (pc := 15) (i0 := 3) (ls2 := [(3, .ref (tgt (tgt (tgt c0 3) 0) 3)), (0, .ref c0), (1, V a1), (2, V a2)]) (dK D_FP_setColor 7 rfl) rfl (ltK rfl) rfl ?_
    refine g_aloadn (pc := 16) (i0 := 3) (j := 0) (dK D_FP_setColor 8 rfl) rfl rfl ?_
    refine vg_getA (pc := 17) (ci := 2) (f := 1) (dK D_FP_setColor 9 rfl) q_207 (hw_8_3 (hw_4_0 (hw_10_3 hc0))) (ltK rfl) (ltK rfl) rfl ?_
    refine g_iloadn (pc := 20) (i0 := 1) (j := 2) (dK D_FP_setColor 10 rfl) rfl rfl ?_
    refine gdE h (fun hi2 h => ?_)
    refine vg_iaload (pc := 21) (j := a1.toNat) (dK D_FP_setColor 11 rfl) (hw_2_1 (hw_8_3 (hw_4_0 (hw_10_3 hc0)))) rfl hi2 rfl ?_
    refine vg_iconst (pc := 22) (dK D_FP_setColor 12 rfl) ?_
    refine vg_icmp_eq (pc := 23) (t := 41) (dK D_FP_setColor 13 rfl) rfl (g_in _ _ _) (inRk rfl) (fun hc14 => ?_) (fun hc14 => ?_)
    · replace h := ifP h hc14
      refine vg_iconst (pc := 41) (dK D_FP_setColor 21 rfl) ?_
      exact vg_iretB (pc := 42) (b := false) (dK D_FP_setColor 22 rfl) rfl (leK rfl) (leK rfl) (xf hfl) (by obtain rfl := Option.some.inj h; exact KT_ok ⟨rfl, rfl⟩)
    · replace h := ifN h hc14
      refine g_iloadn (pc := 26) (i0 := 2) (j := 3) (dK D_FP_setColor 14 rfl) rfl rfl ?_
      refine vg_if_ne (pc := 27) (t := 43) (dK D_FP_setColor 15 rfl) rfl ha2 (fun hc13 => ?_) (fun hc13 => ?_)
      · replace h := ifN h hc13
        refine g_aloadn (pc := 43) (i0 := 0) (j := 1) (dK D_FP_setColor 23 rfl) rfl rfl ?_
        refine vg_getO (pc := 44) (ci := 10) (f := 4) (dK D_FP_setColor 24 rfl) q_426 hc0 (ltK rfl) (ltK rfl) rfl ?_
        refine g_aloadn (pc := 47) (i0 := 0) (j := 1) (dK D_FP_setColor 25 rfl) rfl rfl ?_
        refine vg_getO (pc := 48) (ci := 10) (f := 3) (dK D_FP_setColor 26 rfl) q_425 hc0 (ltK rfl) (ltK rfl) rfl ?_
        refine vg_getO (pc := 51) (ci := 4) (f := 0) (dK D_FP_setColor 27 rfl) q_292 (hw_10_3 hc0) (ltK rfl) (ltK rfl) rfl ?_
        refine bnE h (fun p3 e_p3 h => ?_)
        refine vg_cV (pc := 54) (As := [.ref (tgt (tgt c0 3) 0)]) (rest := []) (mc' := 0) (ms' := 0) (dK D_FP_setColor 28 rfl) K_FP_155 (fitK rfl) (ltK rfl) (hw_10_4 hc0) rfl (leK rfl) (leK rfl) (leK rfl) (tf_History_keep (hw_10_4 hc0) (hw_4_0 (hw_10_3 hc0)) e_p3) (kcU ?_)
        refine g_aloadn (pc := 57) (i0 := 3) (j := 0) (dK D_FP_setColor 29 rfl) rfl rfl ?_
        refine vg_getA (pc := 58) (ci := 2) (f := 0) (dK D_FP_setColor 30 rfl) q_203 (hw_8_3 (hw_4_0 (hw_10_3 hc0))) (ltK rfl) (ltK rfl) rfl ?_
        refine g_iloadn (pc := 61) (i0 := 1) (j := 2) (dK D_FP_setColor 31 rfl) rfl rfl ?_
        refine g_iloadn (pc := 62) (i0 := 2) (j := 3) (dK D_FP_setColor 32 rfl) rfl rfl ?_
        refine vg_if_eq (pc := 63) (t := 70) (dK D_FP_setColor 33 rfl) rfl ha2 (fun hc6 => ?_) (fun hc6 => ?_)
        · replace h := ifP h hc6
          refine vg_iconst (pc := 70) (dK D_FP_setColor 36 rfl) ?_
          refine nmE h (fun S4 e_S4 h => ?_)
          refine vg_iastore (pc := 71) (z := 0) (dK D_FP_setColor 37 rfl) (hw_2_0 (hw_8_3 (hw_4_0 (hw_10_3 hc0)))) rfl hi2 rfl e_S4 ?_
          refine vg_iconst (pc := 72) (dK D_FP_setColor 38 rfl) ?_
          exact vg_iretB (pc := 73) (b := true) (dK D_FP_setColor 39 rfl) rfl (leK rfl) (leK rfl) (xf hfl) (by obtain rfl := Option.some.inj h; exact KT_ok ⟨rfl, rfl⟩)
        · replace h := ifN h hc6
          refine vg_iconst (pc := 66) (dK D_FP_setColor 34 rfl) ?_
          refine g_goto (pc := 67) (tgt := 71) (dK D_FP_setColor 35 rfl) rfl ?_
          refine nmE h (fun S5 e_S5 h => ?_)
          refine vg_iastore (pc := 71) (z := 1) (dK D_FP_setColor 37 rfl) (hw_2_0 (hw_8_3 (hw_4_0 (hw_10_3 hc0)))) rfl hi2 rfl e_S5 ?_
          refine vg_iconst (pc := 72) (dK D_FP_setColor 38 rfl) ?_
          exact vg_iretB (pc := 73) (b := true) (dK D_FP_setColor 39 rfl) rfl (leK rfl) (leK rfl) (xf hfl) (by obtain rfl := Option.some.inj h; exact KT_ok ⟨rfl, rfl⟩)
      · replace h := ifP h hc13
        refine g_aloadn (pc := 30) (i0 := 0) (j := 1) (dK D_FP_setColor 16 rfl) rfl rfl ?_
        refine vg_getO (pc := 31) (ci := 10) (f := 3) (dK D_FP_setColor 17 rfl) q_425 hc0 (ltK rfl) (ltK rfl) rfl ?_
        refine g_iloadn (pc := 34) (i0 := 1) (j := 2) (dK D_FP_setColor 18 rfl) rfl rfl ?_
        refine bnE h (fun p7 e_p7 h => ?_)
        refine vg_cV (pc := 35) (As := [V a1]) (rest := []) (mc' := 0) (ms' := 0) (dK D_FP_setColor 19 rfl) K_FP_241 (fitK rfl) (ltK rfl) (hw_10_3 hc0) rfl (leK rfl) (leK rfl) (leK rfl) (tf_Plan_hasColorItem (hw_10_3 hc0) ha1 e_p7) (kcB ?_)
        refine vg_ifB_eq (pc := 38) (b := p7) (t := 43) (dK D_FP_setColor 20 rfl) rfl (fun hc8 => ?_) (fun hc8 => ?_)
        · replace h := ifP h hc8
          refine vg_iconst (pc := 41) (dK D_FP_setColor 21 rfl) ?_
          exact vg_iretB (pc := 42) (b := false) (dK D_FP_setColor 22 rfl) rfl (leK rfl) (leK rfl) (xf hfl) (by obtain rfl := Option.some.inj h; exact KT_ok ⟨rfl, rfl⟩)
        · replace h := ifN h hc8
          refine g_aloadn (pc := 43) (i0 := 0) (j := 1) (dK D_FP_setColor 23 rfl) rfl rfl ?_
          refine vg_getO (pc := 44) (ci := 10) (f := 4) (dK D_FP_setColor 24 rfl) q_426 hc0 (ltK rfl) (ltK rfl) rfl ?_
          refine g_aloadn (pc := 47) (i0 := 0) (j := 1) (dK D_FP_setColor 25 rfl) rfl rfl ?_
          refine vg_getO (pc := 48) (ci := 10) (f := 3) (dK D_FP_setColor 26 rfl) q_425 hc0 (ltK rfl) (ltK rfl) rfl ?_
          refine vg_getO (pc := 51) (ci := 4) (f := 0) (dK D_FP_setColor 27 rfl) q_292 (hw_10_3 hc0) (ltK rfl) (ltK rfl) rfl ?_
          refine bnE h (fun p9 e_p9 h => ?_)
          refine vg_cV (pc := 54) (As := [.ref (tgt (tgt c0 3) 0)]) (rest := []) (mc' := 0) (ms' := 0) (dK D_FP_setColor 28 rfl) K_FP_155 (fitK rfl) (ltK rfl) (hw_10_4 hc0) rfl (leK rfl) (leK rfl) (leK rfl) (tf_History_keep (hw_10_4 hc0) (hw_4_0 (hw_10_3 hc0)) e_p9) (kcU ?_)
          refine g_aloadn (pc := 57) (i0 := 3) (j := 0) (dK D_FP_setColor 29 rfl) rfl rfl ?_
          refine vg_getA (pc := 58) (ci := 2) (f := 0) (dK D_FP_setColor 30 rfl) q_203 (hw_8_3 (hw_4_0 (hw_10_3 hc0))) (ltK rfl) (ltK rfl) rfl ?_
          refine g_iloadn (pc := 61) (i0 := 1) (j := 2) (dK D_FP_setColor 31 rfl) rfl rfl ?_
          refine g_iloadn (pc := 62) (i0 := 2) (j := 3) (dK D_FP_setColor 32 rfl) rfl rfl ?_
          refine vg_if_eq (pc := 63) (t := 70) (dK D_FP_setColor 33 rfl) rfl ha2 (fun hc12 => ?_) (fun hc12 => ?_)
          · replace h := ifP h hc12
            refine vg_iconst (pc := 70) (dK D_FP_setColor 36 rfl) ?_
            refine nmE h (fun S10 e_S10 h => ?_)
            refine vg_iastore (pc := 71) (z := 0) (dK D_FP_setColor 37 rfl) (hw_2_0 (hw_8_3 (hw_4_0 (hw_10_3 hc0)))) rfl hi2 rfl e_S10 ?_
            refine vg_iconst (pc := 72) (dK D_FP_setColor 38 rfl) ?_
            exact vg_iretB (pc := 73) (b := true) (dK D_FP_setColor 39 rfl) rfl (leK rfl) (leK rfl) (xf hfl) (by obtain rfl := Option.some.inj h; exact KT_ok ⟨rfl, rfl⟩)
          · replace h := ifN h hc12
            refine vg_iconst (pc := 66) (dK D_FP_setColor 34 rfl) ?_
            refine g_goto (pc := 67) (tgt := 71) (dK D_FP_setColor 35 rfl) rfl ?_
            refine nmE h (fun S11 e_S11 h => ?_)
            refine vg_iastore (pc := 71) (z := 1) (dK D_FP_setColor 37 rfl) (hw_2_0 (hw_8_3 (hw_4_0 (hw_10_3 hc0)))) rfl hi2 rfl e_S11 ?_
            refine vg_iconst (pc := 72) (dK D_FP_setColor 38 rfl) ?_
            exact vg_iretB (pc := 73) (b := true) (dK D_FP_setColor 39 rfl) rfl (leK rfl) (leK rfl) (xf hfl) (by obtain rfl := Option.some.inj h; exact KT_ok ⟨rfl, rfl⟩)
  · replace h := ifN h he15
    obtain rfl := Option.some.inj h
    exact KT_thr he15
def fn_Law_setColor (c0 : Nat) (a1 : Int) (a2 : Int) (c3 : Nat) (S : St) : Option (Int × St) := bnO (fn_FP_setColor c0 a1 a2 S) fun p1 => if p1.1 = 0 then (if p1.2.1 = true then (nm (ul p1.2.2 c3 0 1) fun S4 => some (0, S4)) else (nm (ul p1.2.2 c3 0 0) fun S3 => some (0, S3))) else (if p1.1 = 1 then (some (1, p1.2.2)) else none)
theorem tf_Law_setColor {E : EV} {X : XT} (hfl : X.2.2.2 = false) {c0 : Nat} (hc0 : HC X 10 c0) {a1 : Int} (ha1 : inR a1) {a2 : Int} (ha2 : inR a2) {c3 : Nat} (hc3 : HA X 3 1 c3) {S : St} {q : Int × St} (h : fn_Law_setColor c0 a1 a2 c3 S = some q) : EvH E M_Law_setColor [.ref c0, V a1, V a2, .ref c3] (WX X S) 1 6 (KI X q.1 q.2) := by
  refine EvH.of pn_Law (leK rfl) ?_
  show Go E M_Law_setColor 1 6 0 [(0, .ref c0), (1, V a1), (2, V a2), (3, .ref c3)] [] (WX X S) 0 0 (KI X q.1 q.2)
  unfold fn_Law_setColor at h
  refine g_aloadn (pc := 0) (i0 := 3) (j := 3) (dK D_Law_setColor 0 rfl) rfl rfl ?_
  refine vg_iconst (pc := 1) (dK D_Law_setColor 1 rfl) ?_
  refine g_aloadn (pc := 2) (i0 := 0) (j := 0) (dK D_Law_setColor 2 rfl) rfl rfl ?_
  refine g_iloadn (pc := 3) (i0 := 1) (j := 1) (dK D_Law_setColor 3 rfl) rfl rfl ?_
  refine g_iloadn (pc := 4) (i0 := 2) (j := 2) (dK D_Law_setColor 4 rfl) rfl rfl ?_
  refine bnE h (fun p1 e_p1 h => ?_)
  refine vg_cVX hfl (pc := 5) (As := [V a1, V a2]) (rest := [V 0, .ref c3]) (mc' := 1) (ms' := 6) (dK D_Law_setColor 5 rfl) K_Law_75 (fitK rfl) (ltK rfl) hc0 rfl (leK rfl) (leK rfl) (leK rfl) (tf_FP_setColor hfl hc0 ha1 ha2 e_p1) (kxT hfl (fun he5 => kxB hfl ?_) (fun he5 => ?_))
  · replace h := ifP h he5
    refine vg_ifB_eq (pc := 8) (b := p1.2.1) (t := 15) (dK D_Law_setColor 6 rfl) rfl (fun hc2 => ?_) (fun hc2 => ?_)
    · replace h := ifP h hc2
      refine vg_lconst (pc := 11) (y := 1) (dK D_Law_setColor 7 rfl) rfl ?_
      refine g_goto (pc := 12) (tgt := 16) (dK D_Law_setColor 8 rfl) rfl ?_
      refine nmE h (fun S4 e_S4 h => ?_)
      refine vg_lastore (pc := 16) (z := 1) (dK D_Law_setColor 10 rfl) hc3 rfl ⟨by decide, by decide⟩ rfl e_S4 ?_
      refine g_goto (pc := 17) (tgt := 24) (dK D_Law_setColor 11 rfl) rfl ?_
      refine vg_iconst (pc := 24) (dK D_Law_setColor 15 rfl) ?_
      exact vg_iretI (pc := 25) (r := 0) (dK D_Law_setColor 16 rfl) rfl (leK rfl) (leK rfl) (xf hfl) (by obtain rfl := Option.some.inj h; exact ⟨rfl, (inRk rfl), rfl⟩)
    · replace h := ifN h hc2
      refine vg_lconst (pc := 15) (y := 0) (dK D_Law_setColor 9 rfl) rfl ?_
      refine nmE h (fun S3 e_S3 h => ?_)
      refine vg_lastore (pc := 16) (z := 0) (dK D_Law_setColor 10 rfl) hc3 rfl ⟨by decide, by decide⟩ rfl e_S3 ?_
      refine g_goto (pc := 17) (tgt := 24) (dK D_Law_setColor 11 rfl) rfl ?_
      refine vg_iconst (pc := 24) (dK D_Law_setColor 15 rfl) ?_
      exact vg_iretI (pc := 25) (r := 0) (dK D_Law_setColor 16 rfl) rfl (leK rfl) (leK rfl) (xf hfl) (by obtain rfl := Option.some.inj h; exact ⟨rfl, (inRk rfl), rfl⟩)
  · replace h := ifN h he5
    by_cases hq6 : p1.1 = 1
    · have h := ifP h hq6
      rw [hq6]
      exact ⟨_, CT_Law_setColor_5_1, (by obtain rfl := Option.some.inj h; exact ⟨rfl, (inRk rfl), rfl⟩)⟩
    · replace h := ifN h hq6
      exact nomatch h
def lb_Standbys_unused_2 (c0 : Nat) (a1 : Int) (S : St) (go : Int → Option ((Int) ⊕ (Unit))) (a2 : Int) : Option ((Int) ⊕ (Unit)) := if (g S c0 2) ≤ a2 then (some (.inr ())) else (if 0 ≤ a2 ∧ a2 < 8 then (if (g S (tgt c0 1) a2.toNat) = 0 then (if (g S (tgt c0 0) a2.toNat) = a1 then (some (.inl a2)) else (nm (wr (a2 + 1)) fun v3 => go v3)) else (nm (wr (a2 + 1)) fun v2 => go v2)) else none)
def lo_Standbys_unused_2 (c0 : Nat) (a1 : Int) (S : St) : Nat → Int → Option ((Int) ⊕ (Unit)) := lp fun go p => lb_Standbys_unused_2 c0 a1 S go p
theorem tl_Standbys_unused_2 {E : EV} {X : XT} {c0 : Nat} (hc0 : HC X 7 c0) {a1 : Int} (ha1 : inR a1) {S : St} {K : RK → PS → Prop} {q : (Int) ⊕ (Unit)} (hx : ∀ p, q = .inr p → Go E M_Standbys_unused 0 0 37 [] [] (WX X S) 0 0 K) (hr : ∀ p, q = .inl p → inR p → K (.inl (some (V p))) (WX X S)) : ∀ n a, lo_Standbys_unused_2 c0 a1 S n a = some q → inR a → Go E M_Standbys_unused 0 0 2 [(0, .ref c0), (1, V a1), (2, V a)] [] (WX X S) 0 0 K := by
  refine lp_ind (P := fun a : Int => inR a → Go E M_Standbys_unused 0 0 2 [(0, .ref c0), (1, V a1), (2, V a)] [] (WX X S) 0 0 K) (fun go ih a2 h => ?_)
  intro ha2
  show Go E M_Standbys_unused 0 0 2 [(0, .ref c0), (1, V a1), (2, V a2)] [] (WX X S) 0 0 K
  replace h : lb_Standbys_unused_2 c0 a1 S go a2 = some q := h
  unfold lb_Standbys_unused_2 at h
  refine g_iloadn (pc := 2) (i0 := 2) (j := 2) (dK D_Standbys_unused 2 rfl) rfl rfl ?_
  refine g_aloadn (pc := 3) (i0 := 0) (j := 0) (dK D_Standbys_unused 3 rfl) rfl rfl ?_
  refine vg_getI (pc := 4) (ci := 7) (f := 2) (dK D_Standbys_unused 4 rfl) q_183 hc0 (ltK rfl) (ltK rfl) rfl ?_
  refine vg_icmp_ge (pc := 7) (t := 37) (dK D_Standbys_unused 5 rfl) rfl ha2 (g_in _ _ _) (fun hc6 => ?_) (fun hc6 => ?_)
  · replace h := ifP h hc6
    refine gL_weak (ls' := []) sbn ?_
    exact hx _ (Option.some.inj h).symm 
  · replace h := ifN h hc6
    refine g_aloadn (pc := 10) (i0 := 0) (j := 0) (dK D_Standbys_unused 6 rfl) rfl rfl ?_
    refine vg_getA (pc := 11) (ci := 7) (f := 1) (dK D_Standbys_unused 7 rfl) q_180 hc0 (ltK rfl) (ltK rfl) rfl ?_
    refine g_iloadn (pc := 14) (i0 := 2) (j := 2) (dK D_Standbys_unused 8 rfl) rfl rfl ?_
    refine gdE h (fun hi1 h => ?_)
    refine vg_iaload (pc := 15) (j := a2.toNat) (dK D_Standbys_unused 9 rfl) (hw_7_1 hc0) rfl hi1 rfl ?_
    refine vg_if_ne (pc := 16) (t := 31) (dK D_Standbys_unused 10 rfl) rfl (g_in _ _ _) (fun hc5 => ?_) (fun hc5 => ?_)
    · replace h := ifN h hc5
      refine nmE h (fun v2 e_v2 h => ?_)
      refine vg_iinc (pc := 31) (j := 2) (a := a2) (z := 1) (ls2 := [(2, V v2), (0, .ref c0), (1, V a1)]) (dK D_Standbys_unused 19 rfl) rfl e_v2 (ltK rfl) rfl ?_
      refine g_goto (pc := 34) (tgt := 2) (dK D_Standbys_unused 20 rfl) rfl ?_
      refine gL_weak (ls' := [(0, .ref c0), (1, V a1), (2, V v2)]) (sbc 1 rfl (sbc 2 rfl (sbc 0 rfl sbn))) ?_
      replace h := ih _ h
      exact h (Vn_in e_v2)
    · replace h := ifP h hc5
      refine g_aloadn (pc := 19) (i0 := 0) (j := 0) (dK D_Standbys_unused 11 rfl) rfl rfl ?_
      refine vg_getA (pc := 20) (ci := 7) (f := 0) (dK D_Standbys_unused 12 rfl) q_177 hc0 (ltK rfl) (ltK rfl) rfl ?_
      refine g_iloadn (pc := 23) (i0 := 2) (j := 2) (dK D_Standbys_unused 13 rfl) rfl rfl ?_
      refine vg_iaload (pc := 24) (j := a2.toNat) (dK D_Standbys_unused 14 rfl) (hw_7_0 hc0) rfl hi1 rfl ?_
      refine g_iloadn (pc := 25) (i0 := 1) (j := 1) (dK D_Standbys_unused 15 rfl) rfl rfl ?_
      refine vg_icmp_ne (pc := 26) (t := 31) (dK D_Standbys_unused 16 rfl) rfl (g_in _ _ _) ha1 (fun hc4 => ?_) (fun hc4 => ?_)
      · replace h := ifN h hc4
        refine nmE h (fun v3 e_v3 h => ?_)
        refine vg_iinc (pc := 31) (j := 2) (a := a2) (z := 1) (ls2 := [(2, V v3), (0, .ref c0), (1, V a1)]) (dK D_Standbys_unused 19 rfl) rfl e_v3 (ltK rfl) rfl ?_
        refine g_goto (pc := 34) (tgt := 2) (dK D_Standbys_unused 20 rfl) rfl ?_
        refine gL_weak (ls' := [(0, .ref c0), (1, V a1), (2, V v3)]) (sbc 1 rfl (sbc 2 rfl (sbc 0 rfl sbn))) ?_
        replace h := ih _ h
        exact h (Vn_in e_v3)
      · replace h := ifP h hc4
        refine g_iloadn (pc := 29) (i0 := 2) (j := 2) (dK D_Standbys_unused 17 rfl) rfl rfl ?_
        exact vg_iretI (pc := 30) (r := a2) (dK D_Standbys_unused 18 rfl) rfl (leK rfl) (leK rfl) (fun _ => rfl) (hr _ (Option.some.inj h).symm ha2)
def fn_Standbys_unused (c0 : Nat) (a1 : Int) (S : St) : Option (Int) := bnS (lo_Standbys_unused_2 c0 a1 S FU 0) (fun p8 => some p8) fun p7 => some (-1)
theorem tf_Standbys_unused {E : EV} {X : XT} {c0 : Nat} (hc0 : HC X 7 c0) {a1 : Int} (ha1 : inR a1) {S : St} {q : Int} (h : fn_Standbys_unused c0 a1 S = some q) : Ev E M_Standbys_unused [.ref c0, V a1] (WX X S) 0 0 (KI X q S) := by
  refine Ev.of pn_Standbys rfl (leK rfl) ?_
  show Go E M_Standbys_unused 0 0 0 [(0, .ref c0), (1, V a1)] [] (WX X S) 0 0 (KI X q S)
  unfold fn_Standbys_unused at h
  refine vg_iconst (pc := 0) (dK D_Standbys_unused 0 rfl) ?_
  refine g_istoren (pc := 1) (i0 := 2) (ls2 := [(2, V 0), (0, .ref c0), (1, V a1)]) (dK D_Standbys_unused 1 rfl) rfl (ltK rfl) rfl ?_
  refine bnSE h (fun p8 e_p8 h => ?_) (fun p7 e_p7 h => ?_)
  · refine gL_weak (ls' := [(0, .ref c0), (1, V a1), (2, V 0)]) (sbc 1 rfl (sbc 2 rfl (sbc 0 rfl sbn))) ?_
    refine tl_Standbys_unused_2 hc0 ha1 (fun _ e => slr e) (fun p e hr_p8 => ?_) FU 0 e_p8 (inRk rfl)
    have e := Sum.inl.inj e
    subst e
    exact (by obtain rfl := Option.some.inj h; exact ⟨rfl, hr_p8, rfl⟩)
  · refine gL_weak (ls' := [(0, .ref c0), (1, V a1), (2, V 0)]) (sbc 1 rfl (sbc 2 rfl (sbc 0 rfl sbn))) ?_
    refine tl_Standbys_unused_2 hc0 ha1 (fun p e => ?_) (fun _ e => srl e) FU 0 e_p7 (inRk rfl)
    have e := Sum.inr.inj e
    subst e
    refine vg_iconst (pc := 37) (dK D_Standbys_unused 21 rfl) ?_
    exact vg_iretI (pc := 38) (r := (-1)) (dK D_Standbys_unused 22 rfl) rfl (leK rfl) (leK rfl) (fun _ => rfl) (by obtain rfl := Option.some.inj h; exact ⟨rfl, (inRk rfl), rfl⟩)
