def fn_Plan_useReason (c0 : Nat) (a1 : Int) (a2 : Int) (S : St) : Option (Int) := if 0 ≤ a1 ∧ a1 < 8 then (bnO (fn_Plan_hasPage c0 a2 S) fun p2 => if p2 = true then (bnO (fn_Plan_isPrinted c0 a2 S) fun p4 => if p4 = true then (some 2) else (bnO (fn_Plan_isPrinted c0 (g S (tgt (tgt (tgt c0 0) 2) 1) a1.toNat) S) fun p6 => if p6 = true then (some 2) else (if 0 ≤ a2 ∧ a2 < 65 then (if (g S (tgt (tgt (tgt c0 0) 2) 1) a1.toNat) = a2 then (nm (wr ((g S (tgt c0 5) a2.toNat) + (g S (tgt (tgt (tgt c0 0) 2) 0) a1.toNat))) fun v11 => if (g S (tgt (tgt (tgt c0 0) 2) 0) a1.toNat) ≤ v11 then (some 0) else (some 3)) else (nm (wr ((g S (tgt c0 5) a2.toNat) + 0)) fun v9 => if (g S (tgt (tgt (tgt c0 0) 2) 0) a1.toNat) ≤ v9 then (some 0) else (some 3))) else none))) else (some 1)) else none
theorem tf_Plan_useReason {E : EV} {X : XT} {c0 : Nat} (hc0 : HC X 4 c0) {a1 : Int} (ha1 : inR a1) {a2 : Int} (ha2 : inR a2) {S : St} {q : Int} (h : fn_Plan_useReason c0 a1 a2 S = some q) : Ev E M_Plan_useReason [.ref c0, V a1, V a2] (WX X S) 0 0 (KI X q S) := by
  refine Ev.of pn_Plan rfl (leK rfl) ?_
  show Go E M_Plan_useReason 0 0 0 [(0, .ref c0), (1, V a1), (2, V a2)] [] (WX X S) 0 0 (KI X q S)
  unfold fn_Plan_useReason at h
  refine g_aloadn (pc := 0) (i0 := 0) (j := 0) (dK D_Plan_useReason 0 rfl) rfl rfl ?_
  refine vg_getO (pc := 1) (ci := 4) (f := 0) (dK D_Plan_useReason 1 rfl) q_301 hc0 (ltK rfl) (ltK rfl) rfl ?_
  refine vg_getO (pc := 4) (ci := 8) (f := 2) (dK D_Plan_useReason 2 rfl) q_242 (hw_4_0 hc0) (ltK rfl) (ltK rfl) rfl ?_
  refine vg_getA (pc := 7) (ci := 7) (f := 0) (dK D_Plan_useReason 3 rfl) q_189 (hw_8_2 (hw_4_0 hc0)) (ltK rfl) (ltK rfl) rfl ?_
  refine g_iloadn (pc := 10) (i0 := 1) (j := 1) (dK D_Plan_useReason 4 rfl) rfl rfl ?_
  refine gdE h (fun hi1 h => ?_)
  refine vg_iaload (pc := 11) (j := a1.toNat) (dK D_Plan_useReason 5 rfl) (hw_7_0 (hw_8_2 (hw_4_0 hc0))) rfl hi1 rfl ?_
  refine g_istoren (pc := 12) (i0 := 3) (ls2 := [(3, V (g S (tgt (tgt (tgt c0 0) 2) 0) a1.toNat)), (0, .ref c0), (1, V a1), (2, V a2)]) (dK D_Plan_useReason 6 rfl) rfl (ltK rfl) rfl ?_
  refine g_aloadn (pc := 13) (i0 := 0) (j := 1) (dK D_Plan_useReason 7 rfl) rfl rfl ?_
  refine vg_getO (pc := 14) (ci := 4) (f := 0) (dK D_Plan_useReason 8 rfl) q_301 hc0 (ltK rfl) (ltK rfl) rfl ?_
  refine vg_getO (pc := 17) (ci := 8) (f := 2) (dK D_Plan_useReason 9 rfl) q_242 (hw_4_0 hc0) (ltK rfl) (ltK rfl) rfl ?_
  refine vg_getA (pc := 20) (ci := 7) (f := 1) (dK D_Plan_useReason 10 rfl) q_192 (hw_8_2 (hw_4_0 hc0)) (ltK rfl) (ltK rfl) rfl ?_
  refine g_iloadn (pc := 23) (i0 := 1) (j := 2) (dK D_Plan_useReason 11 rfl) rfl rfl ?_
  refine vg_iaload (pc := 24) (j := a1.toNat) (dK D_Plan_useReason 12 rfl) (hw_7_1 (hw_8_2 (hw_4_0 hc0))) rfl hi1 rfl ?_
  refine g_istore (pc := 25) (ls2 := [(4, V (g S (tgt (tgt (tgt c0 0) 2) 1) a1.toNat)), (3, V (g S (tgt (tgt (tgt c0 0) 2) 0) a1.toNat)), (0, .ref c0), (1, V a1), (2, V a2)]) (dK D_Plan_useReason 13 rfl) (ltK rfl) rfl ?_
  refine g_aloadn (pc := 27) (i0 := 0) (j := 2) (dK D_Plan_useReason 14 rfl) rfl rfl ?_
  refine g_iloadn (pc := 28) (i0 := 2) (j := 4) (dK D_Plan_useReason 15 rfl) rfl rfl ?_
  refine bnE h (fun p2 e_p2 h => ?_)
  refine vg_cV (pc := 29) (As := [V a2]) (rest := []) (mc' := 0) (ms' := 0) (dK D_Plan_useReason 16 rfl) K_Plan_119 (fitK rfl) (ltK rfl) hc0 rfl (leK rfl) (leK rfl) (leK rfl) (tf_Plan_hasPage hc0 ha2 e_p2) (kcB ?_)
  refine vg_ifB_ne (pc := 32) (b := p2) (t := 37) (dK D_Plan_useReason 17 rfl) rfl (fun hc3 => ?_) (fun hc3 => ?_)
  · replace h := ifP h hc3
    refine g_aloadn (pc := 37) (i0 := 0) (j := 2) (dK D_Plan_useReason 20 rfl) rfl rfl ?_
    refine g_iloadn (pc := 38) (i0 := 2) (j := 4) (dK D_Plan_useReason 21 rfl) rfl rfl ?_
    refine bnE h (fun p4 e_p4 h => ?_)
    refine vg_cV (pc := 39) (As := [V a2]) (rest := []) (mc' := 0) (ms' := 0) (dK D_Plan_useReason 22 rfl) K_Plan_135 (fitK rfl) (ltK rfl) hc0 rfl (leK rfl) (leK rfl) (leK rfl) (tf_Plan_isPrinted hc0 ha2 e_p4) (kcB ?_)
    refine vg_ifB_ne (pc := 42) (b := p4) (t := 54) (dK D_Plan_useReason 23 rfl) rfl (fun hc5 => ?_) (fun hc5 => ?_)
    · replace h := ifP h hc5
      refine vg_iconst (pc := 54) (dK D_Plan_useReason 28 rfl) ?_
      exact vg_iretI (pc := 55) (r := 2) (dK D_Plan_useReason 29 rfl) rfl (leK rfl) (leK rfl) (fun _ => rfl) (by obtain rfl := Option.some.inj h; exact ⟨rfl, (inRk rfl), rfl⟩)
    · replace h := ifN h hc5
      refine g_aloadn (pc := 45) (i0 := 0) (j := 2) (dK D_Plan_useReason 24 rfl) rfl rfl ?_
      refine g_iload (pc := 46) (j := 0) (dK D_Plan_useReason 25 rfl) rfl ?_
      refine bnE h (fun p6 e_p6 h => ?_)
      refine vg_cV (pc := 48) (As := [V (g S (tgt (tgt (tgt c0 0) 2) 1) a1.toNat)]) (rest := []) (mc' := 0) (ms' := 0) (dK D_Plan_useReason 26 rfl) K_Plan_135 (fitK rfl) (ltK rfl) hc0 rfl (leK rfl) (leK rfl) (leK rfl) (tf_Plan_isPrinted hc0 (g_in _ _ _) e_p6) (kcB ?_)
      refine vg_ifB_eq (pc := 51) (b := p6) (t := 56) (dK D_Plan_useReason 27 rfl) rfl (fun hc7 => ?_) (fun hc7 => ?_)
      · replace h := ifP h hc7
        refine vg_iconst (pc := 54) (dK D_Plan_useReason 28 rfl) ?_
        exact vg_iretI (pc := 55) (r := 2) (dK D_Plan_useReason 29 rfl) rfl (leK rfl) (leK rfl) (fun _ => rfl) (by obtain rfl := Option.some.inj h; exact ⟨rfl, (inRk rfl), rfl⟩)
      · replace h := ifN h hc7
        refine g_aloadn (pc := 56) (i0 := 0) (j := 2) (dK D_Plan_useReason 30 rfl) rfl rfl ?_
        refine vg_getA (pc := 57) (ci := 4) (f := 5) (dK D_Plan_useReason 31 rfl) q_318 hc0 (ltK rfl) (ltK rfl) rfl ?_
        refine g_iloadn (pc := 60) (i0 := 2) (j := 4) (dK D_Plan_useReason 32 rfl) rfl rfl ?_
        refine gdE h (fun hi8 h => ?_)
        refine vg_iaload (pc := 61) (j := a2.toNat) (dK D_Plan_useReason 33 rfl) (hw_4_5 hc0) rfl hi8 rfl ?_
        refine g_iload (pc := 62) (j := 0) (dK D_Plan_useReason 34 rfl) rfl ?_
        refine g_iloadn (pc := 64) (i0 := 2) (j := 4) (dK D_Plan_useReason 35 rfl) rfl rfl ?_
        refine vg_icmp_ne (pc := 65) (t := 72) (dK D_Plan_useReason 36 rfl) rfl (g_in _ _ _) ha2 (fun hc13 => ?_) (fun hc13 => ?_)
        · replace h := ifN h hc13
          refine vg_iconst (pc := 72) (dK D_Plan_useReason 39 rfl) ?_
          refine vg_iadd (pc := 73) (dK D_Plan_useReason 40 rfl) ?_
          refine nmE h (fun v9 e_v9 h => ?_)
          refine gtop e_v9 ?_
          refine g_istore (pc := 74) (ls2 := [(5, V v9), (4, V (g S (tgt (tgt (tgt c0 0) 2) 1) a1.toNat)), (3, V (g S (tgt (tgt (tgt c0 0) 2) 0) a1.toNat)), (0, .ref c0), (1, V a1), (2, V a2)]) (dK D_Plan_useReason 41 rfl) (ltK rfl) rfl ?_
          refine g_iload (pc := 76) (j := 0) (dK D_Plan_useReason 42 rfl) rfl ?_
          refine g_iloadn (pc := 78) (i0 := 3) (j := 2) (dK D_Plan_useReason 43 rfl) rfl rfl ?_
          refine vg_icmp_ge (pc := 79) (t := 86) (dK D_Plan_useReason 44 rfl) rfl (Vn_in e_v9) (g_in _ _ _) (fun hc10 => ?_) (fun hc10 => ?_)
          · replace h := ifP h hc10
            refine vg_iconst (pc := 86) (dK D_Plan_useReason 47 rfl) ?_
            exact vg_iretI (pc := 87) (r := 0) (dK D_Plan_useReason 48 rfl) rfl (leK rfl) (leK rfl) (fun _ => rfl) (by obtain rfl := Option.some.inj h; exact ⟨rfl, (inRk rfl), rfl⟩)
          · replace h := ifN h hc10
            refine vg_iconst (pc := 82) (dK D_Plan_useReason 45 rfl) ?_
            refine g_goto (pc := 83) (tgt := 87) (dK D_Plan_useReason 46 rfl) rfl ?_
            exact vg_iretI (pc := 87) (r := 3) (dK D_Plan_useReason 48 rfl) rfl (leK rfl) (leK rfl) (fun _ => rfl) (by obtain rfl := Option.some.inj h; exact ⟨rfl, (inRk rfl), rfl⟩)
        · replace h := ifP h hc13
          refine g_iloadn (pc := 68) (i0 := 3) (j := 1) (dK D_Plan_useReason 37 rfl) rfl rfl ?_
          refine g_goto (pc := 69) (tgt := 73) (dK D_Plan_useReason 38 rfl) rfl ?_
          refine vg_iadd (pc := 73) (dK D_Plan_useReason 40 rfl) ?_
          refine nmE h (fun v11 e_v11 h => ?_)
          refine gtop e_v11 ?_
          refine g_istore (pc := 74) (ls2 := [(5, V v11), (4, V (g S (tgt (tgt (tgt c0 0) 2) 1) a1.toNat)), (3, V (g S (tgt (tgt (tgt c0 0) 2) 0) a1.toNat)), (0, .ref c0), (1, V a1), (2, V a2)]) (dK D_Plan_useReason 41 rfl) (ltK rfl) rfl ?_
          refine g_iload (pc := 76) (j := 0) (dK D_Plan_useReason 42 rfl) rfl ?_
          refine g_iloadn (pc := 78) (i0 := 3) (j := 2) (dK D_Plan_useReason 43 rfl) rfl rfl ?_
          refine vg_icmp_ge (pc := 79) (t := 86) (dK D_Plan_useReason 44 rfl) rfl (Vn_in e_v11) (g_in _ _ _) (fun hc12 => ?_) (fun hc12 => ?_)
          · replace h := ifP h hc12
            refine vg_iconst (pc := 86) (dK D_Plan_useReason 47 rfl) ?_
            exact vg_iretI (pc := 87) (r := 0) (dK D_Plan_useReason 48 rfl) rfl (leK rfl) (leK rfl) (fun _ => rfl) (by obtain rfl := Option.some.inj h; exact ⟨rfl, (inRk rfl), rfl⟩)
          · replace h := ifN h hc12
            refine vg_iconst (pc := 82) (dK D_Plan_useReason 45 rfl) ?_
            refine g_goto (pc := 83) (tgt := 87) (dK D_Plan_useReason 46 rfl) rfl ?_
            exact vg_iretI (pc := 87) (r := 3) (dK D_Plan_useReason 48 rfl) rfl (leK rfl) (leK rfl) (fun _ => rfl) (by obtain rfl := Option.some.inj h; exact ⟨rfl, (inRk rfl), rfl⟩)
  · replace h := ifN h hc3
    refine vg_iconst (pc := 35) (dK D_Plan_useReason 18 rfl) ?_
    exact vg_iretI (pc := 36) (r := 1) (dK D_Plan_useReason 19 rfl) rfl (leK rfl) (leK rfl) (fun _ => rfl) (by obtain rfl := Option.some.inj h; exact ⟨rfl, (inRk rfl), rfl⟩)
def fn_FP_use (c0 : Nat) (a1 : Int) (a2 : Int) (S : St) : Option (Nat × Int × St) := bnO (fn_FP_needStandby c0 a1 S) fun p1 => if p1 = 0 then (bnO (fn_Plan_useReason (tgt c0 3) a1 a2 S) fun p2 => if p2 = 0 then (bnO (fn_History_keep (tgt c0 4) (tgt (tgt c0 3) 0) S) fun p3 => if 0 ≤ a1 ∧ a1 < 8 then (nm (u p3 (tgt (tgt (tgt (tgt c0 3) 0) 2) 1) a1.toNat a2) fun S5 => bnO (fn_Plan_recount (tgt c0 3) S5) fun p6 => some (0, p2, p6)) else none) else (some (0, p2, S))) else (some (p1, 0, S))
theorem tf_FP_use {E : EV} {X : XT} (hfl : X.2.2.2 = false) {c0 : Nat} (hc0 : HC X 10 c0) {a1 : Int} (ha1 : inR a1) {a2 : Int} (ha2 : inR a2) {S : St} {q : Nat × Int × St} (h : fn_FP_use c0 a1 a2 S = some q) : Ev E M_FP_use [.ref c0, V a1, V a2] (WX X S) 1 6 (KT X q.1 q.2.2 (KI X q.2.1 q.2.2)) := by
  refine Ev.of pn_FP rfl (leK rfl) ?_
  show Go E M_FP_use 1 6 0 [(0, .ref c0), (1, V a1), (2, V a2)] [] (WX X S) 0 0 (KT X q.1 q.2.2 (KI X q.2.1 q.2.2))
  unfold fn_FP_use at h
  refine g_aloadn (pc := 0) (i0 := 0) (j := 0) (dK D_FP_use 0 rfl) rfl rfl ?_
  refine g_iloadn (pc := 1) (i0 := 1) (j := 1) (dK D_FP_use 1 rfl) rfl rfl ?_
  refine bnE h (fun p1 e_p1 h => ?_)
  refine vg_cV (pc := 2) (As := [V a1]) (rest := []) (mc' := 1) (ms' := 6) (dK D_FP_use 2 rfl) K_FP_200 (fitK rfl) (ltK rfl) hc0 rfl (leK rfl) (leK rfl) (leK rfl) (tf_FP_needStandby hfl hc0 ha1 e_p1) (kcT hfl (fun he8 => kcU ?_) (fun he8 => ⟨rfl, ?_⟩))
  · replace h := ifP h he8
    refine g_aloadn (pc := 5) (i0 := 0) (j := 0) (dK D_FP_use 3 rfl) rfl rfl ?_
    refine vg_getO (pc := 6) (ci := 10) (f := 3) (dK D_FP_use 4 rfl) q_436 hc0 (ltK rfl) (ltK rfl) rfl ?_
    refine g_iloadn (pc := 9) (i0 := 1) (j := 1) (dK D_FP_use 5 rfl) rfl rfl ?_
    refine g_iloadn (pc := 10) (i0 := 2) (j := 2) (dK D_FP_use 6 rfl) rfl rfl ?_
    refine bnE h (fun p2 e_p2 h => ?_)
    refine vg_cV (pc := 11) (As := [V a1, V a2]) (rest := []) (mc' := 0) (ms' := 0) (dK D_FP_use 7 rfl) K_FP_260 (fitK rfl) (ltK rfl) (hw_10_3 hc0) rfl (leK rfl) (leK rfl) (leK rfl) (tf_Plan_useReason (hw_10_3 hc0) ha1 ha2 e_p2) (kcI (fun h_p2 => ?_))
    refine g_istoren (pc := 14) (i0 := 3) (ls2 := [(3, V p2), (0, .ref c0), (1, V a1), (2, V a2)]) (dK D_FP_use 8 rfl) rfl (ltK rfl) rfl ?_
    refine g_iloadn (pc := 15) (i0 := 3) (j := 0) (dK D_FP_use 9 rfl) rfl rfl ?_
    refine vg_if_ne (pc := 16) (t := 56) (dK D_FP_use 10 rfl) rfl h_p2 (fun hc7 => ?_) (fun hc7 => ?_)
    · replace h := ifN h hc7
      refine g_iloadn (pc := 56) (i0 := 3) (j := 0) (dK D_FP_use 28 rfl) rfl rfl ?_
      exact vg_iretI (pc := 57) (r := p2) (dK D_FP_use 29 rfl) rfl (leK rfl) (leK rfl) (xf hfl) (by obtain rfl := Option.some.inj h; exact KT_ok ⟨rfl, h_p2, rfl⟩)
    · replace h := ifP h hc7
      refine g_aloadn (pc := 19) (i0 := 0) (j := 1) (dK D_FP_use 11 rfl) rfl rfl ?_
      refine vg_getO (pc := 20) (ci := 10) (f := 4) (dK D_FP_use 12 rfl) q_437 hc0 (ltK rfl) (ltK rfl) rfl ?_
      refine g_aloadn (pc := 23) (i0 := 0) (j := 1) (dK D_FP_use 13 rfl) rfl rfl ?_
      refine vg_getO (pc := 24) (ci := 10) (f := 3) (dK D_FP_use 14 rfl) q_436 hc0 (ltK rfl) (ltK rfl) rfl ?_
      refine vg_getO (pc := 27) (ci := 4) (f := 0) (dK D_FP_use 15 rfl) q_303 (hw_10_3 hc0) (ltK rfl) (ltK rfl) rfl ?_
      refine bnE h (fun p3 e_p3 h => ?_)
      refine vg_cV (pc := 30) (As := [.ref (tgt (tgt c0 3) 0)]) (rest := []) (mc' := 0) (ms' := 0) (dK D_FP_use 16 rfl) K_FP_155 (fitK rfl) (ltK rfl) (hw_10_4 hc0) rfl (leK rfl) (leK rfl) (leK rfl) (tf_History_keep (hw_10_4 hc0) (hw_4_0 (hw_10_3 hc0)) e_p3) (kcU ?_)
      refine g_aloadn (pc := 33) (i0 := 0) (j := 1) (dK D_FP_use 17 rfl) rfl rfl ?_
      refine vg_getO (pc := 34) (ci := 10) (f := 3) (dK D_FP_use 18 rfl) q_436 hc0 (ltK rfl) (ltK rfl) rfl ?_
      refine vg_getO (pc := 37) (ci := 4) (f := 0) (dK D_FP_use 19 rfl) q_303 (hw_10_3 hc0) (ltK rfl) (ltK rfl) rfl ?_
      refine vg_getO (pc := 40) (ci := 8) (f := 2) (dK D_FP_use 20 rfl) q_243 (hw_4_0 (hw_10_3 hc0)) (ltK rfl) (ltK rfl) rfl ?_
      refine vg_getA (pc := 43) (ci := 7) (f := 1) (dK D_FP_use 21 rfl) q_193 (hw_8_2 (hw_4_0 (hw_10_3 hc0))) (ltK rfl) (ltK rfl) rfl ?_
      refine g_iloadn (pc := 46) (i0 := 1) (j := 2) (dK D_FP_use 22 rfl) rfl rfl ?_
      refine g_iloadn (pc := 47) (i0 := 2) (j := 3) (dK D_FP_use 23 rfl) rfl rfl ?_
      refine gdE h (fun hi4 h => ?_)
      refine nmE h (fun S5 e_S5 h => ?_)
      refine vg_iastore (pc := 48) (z := a2) (dK D_FP_use 24 rfl) (hw_7_1 (hw_8_2 (hw_4_0 (hw_10_3 hc0)))) rfl hi4 rfl e_S5 ?_
      refine g_aloadn (pc := 49) (i0 := 0) (j := 1) (dK D_FP_use 25 rfl) rfl rfl ?_
      refine vg_getO (pc := 50) (ci := 10) (f := 3) (dK D_FP_use 26 rfl) q_436 hc0 (ltK rfl) (ltK rfl) rfl ?_
      refine bnE h (fun p6 e_p6 h => ?_)
      refine vg_cV (pc := 53) (As := []) (rest := []) (mc' := 0) (ms' := 0) (dK D_FP_use 27 rfl) K_FP_254 (fitK rfl) (ltK rfl) (hw_10_3 hc0) rfl (leK rfl) (leK rfl) (leK rfl) (tf_Plan_recount (hw_10_3 hc0) e_p6) (kcU ?_)
      refine g_iloadn (pc := 56) (i0 := 3) (j := 0) (dK D_FP_use 28 rfl) rfl rfl ?_
      exact vg_iretI (pc := 57) (r := p2) (dK D_FP_use 29 rfl) rfl (leK rfl) (leK rfl) (xf hfl) (by obtain rfl := Option.some.inj h; exact KT_ok ⟨rfl, h_p2, rfl⟩)
  · replace h := ifN h he8
    obtain rfl := Option.some.inj h
    exact KT_thr he8
def lb_FP_clear_80 (c0 : Nat) (a1 : Int) (c2 : Nat) (a3 : Int) (go : Int × St → Option (St)) (a4 : Int) (S : St) : Option (St) := if (g S (tgt c2 0) 7) ≤ a4 then (some S) else (if 0 ≤ a4 ∧ a4 < 40 then (if (g S (tgt (tgt c2 0) 6) a4.toNat) = a1 then (nm (u S (tgt (tgt c2 0) 6) a4.toNat 0) fun S10 => nm (wr (a4 + 1)) fun v11 => go (v11, S10)) else (nm (wr (a4 + 1)) fun v9 => go (v9, S))) else none)
def lo_FP_clear_80 (c0 : Nat) (a1 : Int) (c2 : Nat) (a3 : Int) : Nat → Int × St → Option (St) := lp fun go p => lb_FP_clear_80 c0 a1 c2 a3 go p.1 p.2
theorem tl_FP_clear_80 {E : EV} {X : XT} (hfl : X.2.2.2 = false) {c0 : Nat} (hc0 : HC X 10 c0) {a1 : Int} (ha1 : inR a1) {c2 : Nat} (hc2 : HC X 8 c2) {a3 : Int} (ha3 : inR a3) {K : RK → PS → Prop} {q : St} (hx : Go E M_FP_clear 1 6 123 [(0, .ref c0), (1, V a1), (2, .ref c2), (3, V a3)] [] (WX X q) 1 6 K) : ∀ n a, lo_FP_clear_80 c0 a1 c2 a3 n a = some q → inR a.1 → Go E M_FP_clear 1 6 80 [(0, .ref c0), (1, V a1), (2, .ref c2), (3, V a3), (4, V a.1)] [] (WX X a.2) 1 6 K := by
  refine lp_ind (P := fun a : Int × St => inR a.1 → Go E M_FP_clear 1 6 80 [(0, .ref c0), (1, V a1), (2, .ref c2), (3, V a3), (4, V a.1)] [] (WX X a.2) 1 6 K) (fun go ih a h => ?_)
  obtain ⟨a4, S⟩ := a
  intro ha4
  show Go E M_FP_clear 1 6 80 [(0, .ref c0), (1, V a1), (2, .ref c2), (3, V a3), (4, V a4)] [] (WX X S) 1 6 K
  replace h : lb_FP_clear_80 c0 a1 c2 a3 go a4 S = some q := h
  unfold lb_FP_clear_80 at h
  refine g_iload (pc := 80) (j := 4) (dK D_FP_clear_0 40 rfl) rfl ?_
  refine g_aloadn (pc := 82) (i0 := 2) (j := 2) (dK D_FP_clear_0 41 rfl) rfl rfl ?_
  refine vg_getO (pc := 83) (ci := 8) (f := 0) (dK D_FP_clear_0 42 rfl) q_235 hc2 (ltK rfl) (ltK rfl) rfl ?_
  refine vg_getI (pc := 86) (ci := 0) (f := 7) (dK D_FP_clear_0 43 rfl) q_120 (hw_8_0 hc2) (ltK rfl) (ltK rfl) rfl ?_
  refine vg_icmp_ge (pc := 89) (t := 123) (dK D_FP_clear_0 44 rfl) rfl ha4 (g_in _ _ _) (fun hc13 => ?_) (fun hc13 => ?_)
  · replace h := ifP h hc13
    obtain rfl := Option.some.inj h
    refine gL_weak (ls' := [(0, .ref c0), (1, V a1), (2, .ref c2), (3, V a3)]) (sbc 0 rfl (sbc 1 rfl (sbc 2 rfl (sbc 3 rfl sbn)))) ?_
    exact hx 
  · replace h := ifN h hc13
    refine g_aloadn (pc := 92) (i0 := 2) (j := 2) (dK D_FP_clear_0 45 rfl) rfl rfl ?_
    refine vg_getO (pc := 93) (ci := 8) (f := 0) (dK D_FP_clear_0 46 rfl) q_235 hc2 (ltK rfl) (ltK rfl) rfl ?_
    refine vg_getA (pc := 96) (ci := 0) (f := 6) (dK D_FP_clear_0 47 rfl) q_114 (hw_8_0 hc2) (ltK rfl) (ltK rfl) rfl ?_
    refine g_iload (pc := 99) (j := 4) (dK D_FP_clear_0 48 rfl) rfl ?_
    refine gdE h (fun hi8 h => ?_)
    refine vg_iaload (pc := 101) (j := a4.toNat) (dK D_FP_clear_0 49 rfl) (hw_0_6 (hw_8_0 hc2)) rfl hi8 rfl ?_
    refine g_iloadn (pc := 102) (i0 := 1) (j := 1) (dK D_FP_clear_1 0 rfl) rfl rfl ?_
    refine vg_icmp_ne (pc := 103) (t := 117) (dK D_FP_clear_1 1 rfl) rfl (g_in _ _ _) ha1 (fun hc12 => ?_) (fun hc12 => ?_)
    · replace h := ifN h hc12
      refine nmE h (fun v9 e_v9 h => ?_)
      refine vg_iinc (pc := 117) (j := 4) (a := a4) (z := 1) (ls2 := [(4, V v9), (0, .ref c0), (1, V a1), (2, .ref c2), (3, V a3)]) (dK D_FP_clear_1 8 rfl) rfl e_v9 (ltK rfl) rfl ?_
      refine g_goto (pc := 120) (tgt := 80) (dK D_FP_clear_1 9 rfl) rfl ?_
      refine gL_weak (ls' := [(0, .ref c0), (1, V a1), (2, .ref c2), (3, V a3), (4, V v9)]) (sbc 1 rfl (sbc 2 rfl (sbc 3 rfl (sbc 4 rfl (sbc 0 rfl sbn))))) ?_
      replace h := ih _ h
      exact h (Vn_in e_v9)
    · replace h := ifP h hc12
      refine g_aloadn (pc := 106) (i0 := 2) (j := 2) (dK D_FP_clear_1 2 rfl) rfl rfl ?_
      refine vg_getO (pc := 107) (ci := 8) (f := 0) (dK D_FP_clear_1 3 rfl) q_235 hc2 (ltK rfl) (ltK rfl) rfl ?_
      refine vg_getA (pc := 110) (ci := 0) (f := 6) (dK D_FP_clear_1 4 rfl) q_114 (hw_8_0 hc2) (ltK rfl) (ltK rfl) rfl ?_
      refine g_iload (pc := 113) (j := 4) (dK D_FP_clear_1 5 rfl) rfl ?_
      refine vg_iconst (pc := 115) (dK D_FP_clear_1 6 rfl) ?_
      refine nmE h (fun S10 e_S10 h => ?_)
      refine vg_iastore (pc := 116) (z := 0) (dK D_FP_clear_1 7 rfl) (hw_0_6 (hw_8_0 hc2)) rfl hi8 rfl e_S10 ?_
      refine nmE h (fun v11 e_v11 h => ?_)
      refine vg_iinc (pc := 117) (j := 4) (a := a4) (z := 1) (ls2 := [(4, V v11), (0, .ref c0), (1, V a1), (2, .ref c2), (3, V a3)]) (dK D_FP_clear_1 8 rfl) rfl e_v11 (ltK rfl) rfl ?_
      refine g_goto (pc := 120) (tgt := 80) (dK D_FP_clear_1 9 rfl) rfl ?_
      refine gL_weak (ls' := [(0, .ref c0), (1, V a1), (2, .ref c2), (3, V a3), (4, V v11)]) (sbc 1 rfl (sbc 2 rfl (sbc 3 rfl (sbc 4 rfl (sbc 0 rfl sbn))))) ?_
      replace h := ih _ h
      exact h (Vn_in e_v11)
def lb_FP_clear_126 (c0 : Nat) (a1 : Int) (c2 : Nat) (a3 : Int) (go : Int × St → Option (St)) (a4 : Int) (S : St) : Option (St) := if (g S (tgt c2 2) 2) ≤ a4 then (some S) else (if 0 ≤ a4 ∧ a4 < 8 then (if (g S (tgt (tgt c2 2) 1) a4.toNat) = a1 then (nm (u S (tgt (tgt c2 2) 1) a4.toNat 0) fun S17 => nm (wr (a4 + 1)) fun v18 => go (v18, S17)) else (nm (wr (a4 + 1)) fun v16 => go (v16, S))) else none)
def lo_FP_clear_126 (c0 : Nat) (a1 : Int) (c2 : Nat) (a3 : Int) : Nat → Int × St → Option (St) := lp fun go p => lb_FP_clear_126 c0 a1 c2 a3 go p.1 p.2
theorem tl_FP_clear_126 {E : EV} {X : XT} (hfl : X.2.2.2 = false) {c0 : Nat} (hc0 : HC X 10 c0) {a1 : Int} (ha1 : inR a1) {c2 : Nat} (hc2 : HC X 8 c2) {a3 : Int} (ha3 : inR a3) {K : RK → PS → Prop} {q : St} (hx : Go E M_FP_clear 1 6 169 [(0, .ref c0), (3, V a3)] [] (WX X q) 1 6 K) : ∀ n a, lo_FP_clear_126 c0 a1 c2 a3 n a = some q → inR a.1 → Go E M_FP_clear 1 6 126 [(0, .ref c0), (1, V a1), (2, .ref c2), (3, V a3), (4, V a.1)] [] (WX X a.2) 1 6 K := by
  refine lp_ind (P := fun a : Int × St => inR a.1 → Go E M_FP_clear 1 6 126 [(0, .ref c0), (1, V a1), (2, .ref c2), (3, V a3), (4, V a.1)] [] (WX X a.2) 1 6 K) (fun go ih a h => ?_)
  obtain ⟨a4, S⟩ := a
  intro ha4
  show Go E M_FP_clear 1 6 126 [(0, .ref c0), (1, V a1), (2, .ref c2), (3, V a3), (4, V a4)] [] (WX X S) 1 6 K
  replace h : lb_FP_clear_126 c0 a1 c2 a3 go a4 S = some q := h
  unfold lb_FP_clear_126 at h
  refine g_iload (pc := 126) (j := 4) (dK D_FP_clear_1 12 rfl) rfl ?_
  refine g_aloadn (pc := 128) (i0 := 2) (j := 2) (dK D_FP_clear_1 13 rfl) rfl rfl ?_
  refine vg_getO (pc := 129) (ci := 8) (f := 2) (dK D_FP_clear_1 14 rfl) q_243 hc2 (ltK rfl) (ltK rfl) rfl ?_
  refine vg_getI (pc := 132) (ci := 7) (f := 2) (dK D_FP_clear_1 15 rfl) q_196 (hw_8_2 hc2) (ltK rfl) (ltK rfl) rfl ?_
  refine vg_icmp_ge (pc := 135) (t := 169) (dK D_FP_clear_1 16 rfl) rfl ha4 (g_in _ _ _) (fun hc20 => ?_) (fun hc20 => ?_)
  · replace h := ifP h hc20
    obtain rfl := Option.some.inj h
    refine gL_weak (ls' := [(0, .ref c0), (3, V a3)]) (sbc 0 rfl (sbc 3 rfl sbn)) ?_
    exact hx 
  · replace h := ifN h hc20
    refine g_aloadn (pc := 138) (i0 := 2) (j := 2) (dK D_FP_clear_1 17 rfl) rfl rfl ?_
    refine vg_getO (pc := 139) (ci := 8) (f := 2) (dK D_FP_clear_1 18 rfl) q_243 hc2 (ltK rfl) (ltK rfl) rfl ?_
    refine vg_getA (pc := 142) (ci := 7) (f := 1) (dK D_FP_clear_1 19 rfl) q_193 (hw_8_2 hc2) (ltK rfl) (ltK rfl) rfl ?_
    refine g_iload (pc := 145) (j := 4) (dK D_FP_clear_1 20 rfl) rfl ?_
    refine gdE h (fun hi15 h => ?_)
    refine vg_iaload (pc := 147) (j := a4.toNat) (dK D_FP_clear_1 21 rfl) (hw_7_1 (hw_8_2 hc2)) rfl hi15 rfl ?_
    refine g_iloadn (pc := 148) (i0 := 1) (j := 1) (dK D_FP_clear_1 22 rfl) rfl rfl ?_
    refine vg_icmp_ne (pc := 149) (t := 163) (dK D_FP_clear_1 23 rfl) rfl (g_in _ _ _) ha1 (fun hc19 => ?_) (fun hc19 => ?_)
    · replace h := ifN h hc19
      refine nmE h (fun v16 e_v16 h => ?_)
      refine vg_iinc (pc := 163) (j := 4) (a := a4) (z := 1) (ls2 := [(4, V v16), (0, .ref c0), (1, V a1), (2, .ref c2), (3, V a3)]) (dK D_FP_clear_1 30 rfl) rfl e_v16 (ltK rfl) rfl ?_
      refine g_goto (pc := 166) (tgt := 126) (dK D_FP_clear_1 31 rfl) rfl ?_
      refine gL_weak (ls' := [(0, .ref c0), (1, V a1), (2, .ref c2), (3, V a3), (4, V v16)]) (sbc 1 rfl (sbc 2 rfl (sbc 3 rfl (sbc 4 rfl (sbc 0 rfl sbn))))) ?_
      replace h := ih _ h
      exact h (Vn_in e_v16)
    · replace h := ifP h hc19
      refine g_aloadn (pc := 152) (i0 := 2) (j := 2) (dK D_FP_clear_1 24 rfl) rfl rfl ?_
      refine vg_getO (pc := 153) (ci := 8) (f := 2) (dK D_FP_clear_1 25 rfl) q_243 hc2 (ltK rfl) (ltK rfl) rfl ?_
      refine vg_getA (pc := 156) (ci := 7) (f := 1) (dK D_FP_clear_1 26 rfl) q_193 (hw_8_2 hc2) (ltK rfl) (ltK rfl) rfl ?_
      refine g_iload (pc := 159) (j := 4) (dK D_FP_clear_1 27 rfl) rfl ?_
      refine vg_iconst (pc := 161) (dK D_FP_clear_1 28 rfl) ?_
      refine nmE h (fun S17 e_S17 h => ?_)
      refine vg_iastore (pc := 162) (z := 0) (dK D_FP_clear_1 29 rfl) (hw_7_1 (hw_8_2 hc2)) rfl hi15 rfl e_S17 ?_
      refine nmE h (fun v18 e_v18 h => ?_)
      refine vg_iinc (pc := 163) (j := 4) (a := a4) (z := 1) (ls2 := [(4, V v18), (0, .ref c0), (1, V a1), (2, .ref c2), (3, V a3)]) (dK D_FP_clear_1 30 rfl) rfl e_v18 (ltK rfl) rfl ?_
      refine g_goto (pc := 166) (tgt := 126) (dK D_FP_clear_1 31 rfl) rfl ?_
      refine gL_weak (ls' := [(0, .ref c0), (1, V a1), (2, .ref c2), (3, V a3), (4, V v18)]) (sbc 1 rfl (sbc 2 rfl (sbc 3 rfl (sbc 4 rfl (sbc 0 rfl sbn))))) ?_
      replace h := ih _ h
      exact h (Vn_in e_v18)
def fn_FP_clear (c0 : Nat) (a1 : Int) (S : St) : Option (Nat × Int × St) := bnO (fn_FP_needPage c0 a1 S) fun p1 => if p1 = 0 then (bnO (fn_FP_standing 40 (tgt (tgt (tgt (tgt c0 3) 0) 0) 6) (g S (tgt (tgt (tgt c0 3) 0) 0) 7) a1 S) fun p2 => bnO (fn_FP_standing 8 (tgt (tgt (tgt (tgt c0 3) 0) 2) 1) (g S (tgt (tgt (tgt c0 3) 0) 2) 2) a1 S) fun p3 => nm (wr (p2 + p3)) fun v4 => if v4 = 0 then (some (0, (-4), S)) else (bnO (fn_Plan_isPrinted (tgt c0 3) a1 S) fun p5 => if p5 = true then (some (0, (-4), S)) else (bnO (fn_History_keep (tgt c0 4) (tgt (tgt c0 3) 0) S) fun p7 => bnO (lo_FP_clear_80 c0 a1 (tgt (tgt c0 3) 0) v4 FU (0, p7)) fun p14 => bnO (lo_FP_clear_126 c0 a1 (tgt (tgt c0 3) 0) v4 FU (0, p14)) fun p21 => bnO (fn_Plan_recount (tgt c0 3) p21) fun p22 => some (0, v4, p22)))) else (some (p1, 0, S))
theorem tf_FP_clear {E : EV} {X : XT} (hfl : X.2.2.2 = false) {c0 : Nat} (hc0 : HC X 10 c0) {a1 : Int} (ha1 : inR a1) {S : St} {q : Nat × Int × St} (h : fn_FP_clear c0 a1 S = some q) : Ev E M_FP_clear [.ref c0, V a1] (WX X S) 1 6 (KT X q.1 q.2.2 (KI X q.2.1 q.2.2)) := by
  refine Ev.of pn_FP rfl (leK rfl) ?_
  show Go E M_FP_clear 1 6 0 [(0, .ref c0), (1, V a1)] [] (WX X S) 0 0 (KT X q.1 q.2.2 (KI X q.2.1 q.2.2))
  unfold fn_FP_clear at h
  refine g_aloadn (pc := 0) (i0 := 0) (j := 0) (dK D_FP_clear_0 0 rfl) rfl rfl ?_
  refine g_iloadn (pc := 1) (i0 := 1) (j := 1) (dK D_FP_clear_0 1 rfl) rfl rfl ?_
  refine bnE h (fun p1 e_p1 h => ?_)
  refine vg_cV (pc := 2) (As := [V a1]) (rest := []) (mc' := 1) (ms' := 6) (dK D_FP_clear_0 2 rfl) K_FP_204 (fitK rfl) (ltK rfl) hc0 rfl (leK rfl) (leK rfl) (leK rfl) (tf_FP_needPage hfl hc0 ha1 e_p1) (kcT hfl (fun he24 => kcU ?_) (fun he24 => ⟨rfl, ?_⟩))
  · replace h := ifP h he24
    refine g_aloadn (pc := 5) (i0 := 0) (j := 0) (dK D_FP_clear_0 3 rfl) rfl rfl ?_
    refine vg_getO (pc := 6) (ci := 10) (f := 3) (dK D_FP_clear_0 4 rfl) q_436 hc0 (ltK rfl) (ltK rfl) rfl ?_
    refine vg_getO (pc := 9) (ci := 4) (f := 0) (dK D_FP_clear_0 5 rfl) q_303 (hw_10_3 hc0) (ltK rfl) (ltK rfl) rfl ?_
    refine g_astoren (pc := 12) (i0 := 2) (ls2 := [(2, .ref (tgt (tgt c0 3) 0)), (0, .ref c0), (1, V a1)]) (dK D_FP_clear_0 6 rfl) rfl (ltK rfl) rfl ?_
    refine g_aloadn (pc := 13) (i0 := 2) (j := 0) (dK D_FP_clear_0 7 rfl) rfl rfl ?_
    refine vg_getO (pc := 14) (ci := 8) (f := 0) (dK D_FP_clear_0 8 rfl) q_235 (hw_4_0 (hw_10_3 hc0)) (ltK rfl) (ltK rfl) rfl ?_
    refine vg_getA (pc := 17) (ci := 0) (f := 6) (dK D_FP_clear_0 9 rfl) q_114 (hw_8_0 (hw_4_0 (hw_10_3 hc0))) (ltK rfl) (ltK rfl) rfl ?_
    refine g_aloadn (pc := 20) (i0 := 2) (j := 0) (dK D_FP_clear_0 10 rfl) rfl rfl ?_
    refine vg_getO (pc := 21) (ci := 8) (f := 0) (dK D_FP_clear_0 11 rfl) q_235 (hw_4_0 (hw_10_3 hc0)) (ltK rfl) (ltK rfl) rfl ?_
    refine vg_getI (pc := 24) (ci := 0) (f := 7) (dK D_FP_clear_0 12 rfl) q_120 (hw_8_0 (hw_4_0 (hw_10_3 hc0))) (ltK rfl) (ltK rfl) rfl ?_
    refine g_iloadn (pc := 27) (i0 := 1) (j := 2) (dK D_FP_clear_0 13 rfl) rfl rfl ?_
    refine bnE h (fun p2 e_p2 h => ?_)
    refine vg_cS (pc := 28) (As := [.ref (tgt (tgt (tgt (tgt c0 3) 0) 0) 6), V (g S (tgt (tgt (tgt c0 3) 0) 0) 7), V a1]) (rest := []) (mc' := 0) (ms' := 0) (dK D_FP_clear_0 14 rfl) K_FP_216 (fitK rfl) rfl (leK rfl) (leK rfl) (leK rfl) (tf_FP_standing rfl (hw_0_6 (hw_8_0 (hw_4_0 (hw_10_3 hc0)))) (g_in _ _ _) ha1 e_p2) (kcI (fun h_p2 => ?_))
    refine g_aloadn (pc := 31) (i0 := 2) (j := 0) (dK D_FP_clear_0 15 rfl) rfl rfl ?_
    refine vg_getO (pc := 32) (ci := 8) (f := 2) (dK D_FP_clear_0 16 rfl) q_243 (hw_4_0 (hw_10_3 hc0)) (ltK rfl) (ltK rfl) rfl ?_
    refine vg_getA (pc := 35) (ci := 7) (f := 1) (dK D_FP_clear_0 17 rfl) q_193 (hw_8_2 (hw_4_0 (hw_10_3 hc0))) (ltK rfl) (ltK rfl) rfl ?_
    refine g_aloadn (pc := 38) (i0 := 2) (j := 0) (dK D_FP_clear_0 18 rfl) rfl rfl ?_
    refine vg_getO (pc := 39) (ci := 8) (f := 2) (dK D_FP_clear_0 19 rfl) q_243 (hw_4_0 (hw_10_3 hc0)) (ltK rfl) (ltK rfl) rfl ?_
    refine vg_getI (pc := 42) (ci := 7) (f := 2) (dK D_FP_clear_0 20 rfl) q_196 (hw_8_2 (hw_4_0 (hw_10_3 hc0))) (ltK rfl) (ltK rfl) rfl ?_
    refine g_iloadn (pc := 45) (i0 := 1) (j := 2) (dK D_FP_clear_0 21 rfl) rfl rfl ?_
    refine bnE h (fun p3 e_p3 h => ?_)
    refine vg_cS (pc := 46) (As := [.ref (tgt (tgt (tgt (tgt c0 3) 0) 2) 1), V (g S (tgt (tgt (tgt c0 3) 0) 2) 2), V a1]) (rest := [V p2]) (mc' := 0) (ms' := 0) (dK D_FP_clear_0 22 rfl) K_FP_216 (fitK rfl) rfl (leK rfl) (leK rfl) (leK rfl) (tf_FP_standing rfl (hw_7_1 (hw_8_2 (hw_4_0 (hw_10_3 hc0)))) (g_in _ _ _) ha1 e_p3) (kcI (fun h_p3 => ?_))
    refine vg_iadd (pc := 49) (dK D_FP_clear_0 23 rfl) ?_
    refine nmE h (fun v4 e_v4 h => ?_)
    refine gtop e_v4 ?_
    refine g_istoren (pc := 50) (i0 := 3) (ls2 := [(3, V v4), (2, .ref (tgt (tgt c0 3) 0)), (0, .ref c0), (1, V a1)]) (dK D_FP_clear_0 24 rfl) rfl (ltK rfl) rfl ?_
    refine g_iloadn (pc := 51) (i0 := 3) (j := 0) (dK D_FP_clear_0 25 rfl) rfl rfl ?_
    refine vg_if_eq (pc := 52) (t := 66) (dK D_FP_clear_0 26 rfl) rfl (Vn_in e_v4) (fun hc23 => ?_) (fun hc23 => ?_)
    · replace h := ifP h hc23
      refine vg_bipush (pc := 66) (dK D_FP_clear_0 32 rfl) rfl ?_
      exact vg_iretI (pc := 68) (r := (-4)) (dK D_FP_clear_0 33 rfl) rfl (leK rfl) (leK rfl) (xf hfl) (by obtain rfl := Option.some.inj h; exact KT_ok ⟨rfl, (inRk rfl), rfl⟩)
    · replace h := ifN h hc23
      refine g_aloadn (pc := 55) (i0 := 0) (j := 2) (dK D_FP_clear_0 27 rfl) rfl rfl ?_
      refine vg_getO (pc := 56) (ci := 10) (f := 3) (dK D_FP_clear_0 28 rfl) q_436 hc0 (ltK rfl) (ltK rfl) rfl ?_
      refine g_iloadn (pc := 59) (i0 := 1) (j := 3) (dK D_FP_clear_0 29 rfl) rfl rfl ?_
      refine bnE h (fun p5 e_p5 h => ?_)
      refine vg_cV (pc := 60) (As := [V a1]) (rest := []) (mc' := 0) (ms' := 0) (dK D_FP_clear_0 30 rfl) K_FP_251 (fitK rfl) (ltK rfl) (hw_10_3 hc0) rfl (leK rfl) (leK rfl) (leK rfl) (tf_Plan_isPrinted (hw_10_3 hc0) ha1 e_p5) (kcB ?_)
      refine vg_ifB_eq (pc := 63) (b := p5) (t := 69) (dK D_FP_clear_0 31 rfl) rfl (fun hc6 => ?_) (fun hc6 => ?_)
      · replace h := ifP h hc6
        refine vg_bipush (pc := 66) (dK D_FP_clear_0 32 rfl) rfl ?_
        exact vg_iretI (pc := 68) (r := (-4)) (dK D_FP_clear_0 33 rfl) rfl (leK rfl) (leK rfl) (xf hfl) (by obtain rfl := Option.some.inj h; exact KT_ok ⟨rfl, (inRk rfl), rfl⟩)
      · replace h := ifN h hc6
        refine g_aloadn (pc := 69) (i0 := 0) (j := 2) (dK D_FP_clear_0 34 rfl) rfl rfl ?_
        refine vg_getO (pc := 70) (ci := 10) (f := 4) (dK D_FP_clear_0 35 rfl) q_437 hc0 (ltK rfl) (ltK rfl) rfl ?_
        refine g_aloadn (pc := 73) (i0 := 2) (j := 1) (dK D_FP_clear_0 36 rfl) rfl rfl ?_
        refine bnE h (fun p7 e_p7 h => ?_)
        refine vg_cV (pc := 74) (As := [.ref (tgt (tgt c0 3) 0)]) (rest := []) (mc' := 0) (ms' := 0) (dK D_FP_clear_0 37 rfl) K_FP_155 (fitK rfl) (ltK rfl) (hw_10_4 hc0) rfl (leK rfl) (leK rfl) (leK rfl) (tf_History_keep (hw_10_4 hc0) (hw_4_0 (hw_10_3 hc0)) e_p7) (kcU ?_)
        refine vg_iconst (pc := 77) (dK D_FP_clear_0 38 rfl) ?_
        refine g_istore (pc := 78) (ls2 := [(4, V 0), (3, V v4), (2, .ref (tgt (tgt c0 3) 0)), (0, .ref c0), (1, V a1)]) (dK D_FP_clear_0 39 rfl) (ltK rfl) rfl ?_
        refine bnE h (fun p14 e_p14 h => ?_)
        refine gL_weak (ls' := [(0, .ref c0), (1, V a1), (2, .ref (tgt (tgt c0 3) 0)), (3, V v4), (4, V 0)]) (sbc 3 rfl (sbc 4 rfl (sbc 2 rfl (sbc 1 rfl (sbc 0 rfl sbn))))) ?_
        refine tl_FP_clear_80 hfl hc0 ha1 (hw_4_0 (hw_10_3 hc0)) (Vn_in e_v4) ?_ FU (0, p7) e_p14 (inRk rfl)
        refine vg_iconst (pc := 123) (dK D_FP_clear_1 10 rfl) ?_
        refine g_istore (pc := 124) (ls2 := [(4, V 0), (0, .ref c0), (1, V a1), (2, .ref (tgt (tgt c0 3) 0)), (3, V v4)]) (dK D_FP_clear_1 11 rfl) (ltK rfl) rfl ?_
        refine bnE h (fun p21 e_p21 h => ?_)
        refine gL_weak (ls' := [(0, .ref c0), (1, V a1), (2, .ref (tgt (tgt c0 3) 0)), (3, V v4), (4, V 0)]) (sbc 1 rfl (sbc 2 rfl (sbc 3 rfl (sbc 4 rfl (sbc 0 rfl sbn))))) ?_
        refine tl_FP_clear_126 hfl hc0 ha1 (hw_4_0 (hw_10_3 hc0)) (Vn_in e_v4) ?_ FU (0, p14) e_p21 (inRk rfl)
        refine g_aloadn (pc := 169) (i0 := 0) (j := 0) (dK D_FP_clear_1 32 rfl) rfl rfl ?_
        refine vg_getO (pc := 170) (ci := 10) (f := 3) (dK D_FP_clear_1 33 rfl) q_436 hc0 (ltK rfl) (ltK rfl) rfl ?_
        refine bnE h (fun p22 e_p22 h => ?_)
        refine vg_cV (pc := 173) (As := []) (rest := []) (mc' := 0) (ms' := 0) (dK D_FP_clear_1 34 rfl) K_FP_254 (fitK rfl) (ltK rfl) (hw_10_3 hc0) rfl (leK rfl) (leK rfl) (leK rfl) (tf_Plan_recount (hw_10_3 hc0) e_p22) (kcU ?_)
        refine g_iloadn (pc := 176) (i0 := 3) (j := 1) (dK D_FP_clear_1 35 rfl) rfl rfl ?_
        exact vg_iretI (pc := 177) (r := v4) (dK D_FP_clear_1 36 rfl) rfl (leK rfl) (leK rfl) (xf hfl) (by obtain rfl := Option.some.inj h; exact KT_ok ⟨rfl, (Vn_in e_v4), rfl⟩)
  · replace h := ifN h he24
    obtain rfl := Option.some.inj h
    exact KT_thr he24
def lb_FP_exchange_45 (c0 : Nat) (a1 : Int) (a2 : Int) (a3 : Int) (c4 : Nat) (go : Int × St → Option (St)) (a5 : Int) (S : St) : Option (St) := if (g S (tgt c4 0) 7) ≤ a5 then (some S) else (if 0 ≤ a5 ∧ a5 < 40 then (bnO (fn_Plan_exchanged (g S (tgt (tgt c4 0) 6) a5.toNat) a1 a2 S) fun p6 => nm (u S (tgt (tgt c4 0) 6) a5.toNat p6) fun S7 => nm (wr (a5 + 1)) fun v8 => go (v8, S7)) else none)
def lo_FP_exchange_45 (c0 : Nat) (a1 : Int) (a2 : Int) (a3 : Int) (c4 : Nat) : Nat → Int × St → Option (St) := lp fun go p => lb_FP_exchange_45 c0 a1 a2 a3 c4 go p.1 p.2
theorem tl_FP_exchange_45 {E : EV} {X : XT} (hfl : X.2.2.2 = false) {c0 : Nat} (hc0 : HC X 10 c0) {a1 : Int} (ha1 : inR a1) {a2 : Int} (ha2 : inR a2) {a3 : Int} (ha3 : inR a3) {c4 : Nat} (hc4 : HC X 8 c4) {K : RK → PS → Prop} {q : St} (hx : Go E M_FP_exchange 2 12 91 [(0, .ref c0), (1, V a1), (2, V a2), (3, V a3), (4, .ref c4)] [] (WX X q) 2 12 K) : ∀ n a, lo_FP_exchange_45 c0 a1 a2 a3 c4 n a = some q → inR a.1 → Go E M_FP_exchange 2 12 45 [(0, .ref c0), (1, V a1), (2, V a2), (3, V a3), (4, .ref c4), (5, V a.1)] [] (WX X a.2) 2 12 K := by
  refine lp_ind (P := fun a : Int × St => inR a.1 → Go E M_FP_exchange 2 12 45 [(0, .ref c0), (1, V a1), (2, V a2), (3, V a3), (4, .ref c4), (5, V a.1)] [] (WX X a.2) 2 12 K) (fun go ih a h => ?_)
  obtain ⟨a5, S⟩ := a
  intro ha5
  show Go E M_FP_exchange 2 12 45 [(0, .ref c0), (1, V a1), (2, V a2), (3, V a3), (4, .ref c4), (5, V a5)] [] (WX X S) 2 12 K
  replace h : lb_FP_exchange_45 c0 a1 a2 a3 c4 go a5 S = some q := h
  unfold lb_FP_exchange_45 at h
  refine g_iload (pc := 45) (j := 5) (dK D_FP_exchange_0 24 rfl) rfl ?_
  refine g_aload (pc := 47) (j := 4) (dK D_FP_exchange_0 25 rfl) rfl ?_
  refine vg_getO (pc := 49) (ci := 8) (f := 0) (dK D_FP_exchange_0 26 rfl) q_235 hc4 (ltK rfl) (ltK rfl) rfl ?_
  refine vg_getI (pc := 52) (ci := 0) (f := 7) (dK D_FP_exchange_0 27 rfl) q_120 (hw_8_0 hc4) (ltK rfl) (ltK rfl) rfl ?_
  refine vg_icmp_ge (pc := 55) (t := 91) (dK D_FP_exchange_0 28 rfl) rfl ha5 (g_in _ _ _) (fun hc9 => ?_) (fun hc9 => ?_)
  · replace h := ifP h hc9
    obtain rfl := Option.some.inj h
    refine gL_weak (ls' := [(0, .ref c0), (1, V a1), (2, V a2), (3, V a3), (4, .ref c4)]) (sbc 0 rfl (sbc 1 rfl (sbc 2 rfl (sbc 3 rfl (sbc 4 rfl sbn))))) ?_
    exact hx 
  · replace h := ifN h hc9
    refine g_aload (pc := 58) (j := 4) (dK D_FP_exchange_0 29 rfl) rfl ?_
    refine vg_getO (pc := 60) (ci := 8) (f := 0) (dK D_FP_exchange_0 30 rfl) q_235 hc4 (ltK rfl) (ltK rfl) rfl ?_
    refine vg_getA (pc := 63) (ci := 0) (f := 6) (dK D_FP_exchange_0 31 rfl) q_114 (hw_8_0 hc4) (ltK rfl) (ltK rfl) rfl ?_
    refine g_iload (pc := 66) (j := 5) (dK D_FP_exchange_0 32 rfl) rfl ?_
    refine g_aload (pc := 68) (j := 4) (dK D_FP_exchange_0 33 rfl) rfl ?_
    refine vg_getO (pc := 70) (ci := 8) (f := 0) (dK D_FP_exchange_0 34 rfl) q_235 hc4 (ltK rfl) (ltK rfl) rfl ?_
    refine vg_getA (pc := 73) (ci := 0) (f := 6) (dK D_FP_exchange_0 35 rfl) q_114 (hw_8_0 hc4) (ltK rfl) (ltK rfl) rfl ?_
    refine g_iload (pc := 76) (j := 5) (dK D_FP_exchange_0 36 rfl) rfl ?_
    refine gdE h (fun hi5 h => ?_)
    refine vg_iaload (pc := 78) (j := a5.toNat) (dK D_FP_exchange_0 37 rfl) (hw_0_6 (hw_8_0 hc4)) rfl hi5 rfl ?_
    refine g_iloadn (pc := 79) (i0 := 1) (j := 1) (dK D_FP_exchange_0 38 rfl) rfl rfl ?_
    refine g_iloadn (pc := 80) (i0 := 2) (j := 2) (dK D_FP_exchange_0 39 rfl) rfl rfl ?_
    refine bnE h (fun p6 e_p6 h => ?_)
    refine vg_cS (pc := 81) (As := [V (g S (tgt (tgt c4 0) 6) a5.toNat), V a1, V a2]) (rest := [V a5, .ref (tgt (tgt c4 0) 6)]) (mc' := 0) (ms' := 0) (dK D_FP_exchange_0 40 rfl) K_FP_266 (fitK rfl) rfl (leK rfl) (leK rfl) (leK rfl) (tf_Plan_exchanged (g_in _ _ _) ha1 ha2 e_p6) (kcI (fun h_p6 => ?_))
    refine nmE h (fun S7 e_S7 h => ?_)
    refine vg_iastore (pc := 84) (z := p6) (dK D_FP_exchange_0 41 rfl) (hw_0_6 (hw_8_0 hc4)) rfl hi5 rfl e_S7 ?_
    refine nmE h (fun v8 e_v8 h => ?_)
    refine vg_iinc (pc := 85) (j := 5) (a := a5) (z := 1) (ls2 := [(5, V v8), (0, .ref c0), (1, V a1), (2, V a2), (3, V a3), (4, .ref c4)]) (dK D_FP_exchange_0 42 rfl) rfl e_v8 (ltK rfl) rfl ?_
    refine g_goto (pc := 88) (tgt := 45) (dK D_FP_exchange_0 43 rfl) rfl ?_
    refine gL_weak (ls' := [(0, .ref c0), (1, V a1), (2, V a2), (3, V a3), (4, .ref c4), (5, V v8)]) (sbc 1 rfl (sbc 2 rfl (sbc 3 rfl (sbc 4 rfl (sbc 5 rfl (sbc 0 rfl sbn)))))) ?_
    replace h := ih _ h
    exact h (Vn_in e_v8)
def lb_FP_exchange_94 (c0 : Nat) (a1 : Int) (a2 : Int) (a3 : Int) (c4 : Nat) (go : Int × St → Option (St)) (a5 : Int) (S : St) : Option (St) := if (g S (tgt c4 2) 2) ≤ a5 then (some S) else (if 0 ≤ a5 ∧ a5 < 8 then (bnO (fn_Plan_exchanged (g S (tgt (tgt c4 2) 1) a5.toNat) a1 a2 S) fun p12 => nm (u S (tgt (tgt c4 2) 1) a5.toNat p12) fun S13 => nm (wr (a5 + 1)) fun v14 => go (v14, S13)) else none)
def lo_FP_exchange_94 (c0 : Nat) (a1 : Int) (a2 : Int) (a3 : Int) (c4 : Nat) : Nat → Int × St → Option (St) := lp fun go p => lb_FP_exchange_94 c0 a1 a2 a3 c4 go p.1 p.2
theorem tl_FP_exchange_94 {E : EV} {X : XT} (hfl : X.2.2.2 = false) {c0 : Nat} (hc0 : HC X 10 c0) {a1 : Int} (ha1 : inR a1) {a2 : Int} (ha2 : inR a2) {a3 : Int} (ha3 : inR a3) {c4 : Nat} (hc4 : HC X 8 c4) {K : RK → PS → Prop} {q : St} (hx : Go E M_FP_exchange 2 12 140 [(0, .ref c0), (3, V a3)] [] (WX X q) 2 12 K) : ∀ n a, lo_FP_exchange_94 c0 a1 a2 a3 c4 n a = some q → inR a.1 → Go E M_FP_exchange 2 12 94 [(0, .ref c0), (1, V a1), (2, V a2), (3, V a3), (4, .ref c4), (5, V a.1)] [] (WX X a.2) 2 12 K := by
  refine lp_ind (P := fun a : Int × St => inR a.1 → Go E M_FP_exchange 2 12 94 [(0, .ref c0), (1, V a1), (2, V a2), (3, V a3), (4, .ref c4), (5, V a.1)] [] (WX X a.2) 2 12 K) (fun go ih a h => ?_)
  obtain ⟨a5, S⟩ := a
  intro ha5
  show Go E M_FP_exchange 2 12 94 [(0, .ref c0), (1, V a1), (2, V a2), (3, V a3), (4, .ref c4), (5, V a5)] [] (WX X S) 2 12 K
  replace h : lb_FP_exchange_94 c0 a1 a2 a3 c4 go a5 S = some q := h
  unfold lb_FP_exchange_94 at h
  refine g_iload (pc := 94) (j := 5) (dK D_FP_exchange_0 46 rfl) rfl ?_
  refine g_aload (pc := 96) (j := 4) (dK D_FP_exchange_0 47 rfl) rfl ?_
  refine vg_getO (pc := 98) (ci := 8) (f := 2) (dK D_FP_exchange_0 48 rfl) q_243 hc4 (ltK rfl) (ltK rfl) rfl ?_
  refine vg_getI (pc := 101) (ci := 7) (f := 2) (dK D_FP_exchange_0 49 rfl) q_196 (hw_8_2 hc4) (ltK rfl) (ltK rfl) rfl ?_
  refine vg_icmp_ge (pc := 104) (t := 140) (dK D_FP_exchange_1 0 rfl) rfl ha5 (g_in _ _ _) (fun hc15 => ?_) (fun hc15 => ?_)
  · replace h := ifP h hc15
    obtain rfl := Option.some.inj h
    refine gL_weak (ls' := [(0, .ref c0), (3, V a3)]) (sbc 0 rfl (sbc 3 rfl sbn)) ?_
    exact hx 
  · replace h := ifN h hc15
    refine g_aload (pc := 107) (j := 4) (dK D_FP_exchange_1 1 rfl) rfl ?_
    refine vg_getO (pc := 109) (ci := 8) (f := 2) (dK D_FP_exchange_1 2 rfl) q_243 hc4 (ltK rfl) (ltK rfl) rfl ?_
    refine vg_getA (pc := 112) (ci := 7) (f := 1) (dK D_FP_exchange_1 3 rfl) q_193 (hw_8_2 hc4) (ltK rfl) (ltK rfl) rfl ?_
    refine g_iload (pc := 115) (j := 5) (dK D_FP_exchange_1 4 rfl) rfl ?_
    refine g_aload (pc := 117) (j := 4) (dK D_FP_exchange_1 5 rfl) rfl ?_
    refine vg_getO (pc := 119) (ci := 8) (f := 2) (dK D_FP_exchange_1 6 rfl) q_243 hc4 (ltK rfl) (ltK rfl) rfl ?_
    refine vg_getA (pc := 122) (ci := 7) (f := 1) (dK D_FP_exchange_1 7 rfl) q_193 (hw_8_2 hc4) (ltK rfl) (ltK rfl) rfl ?_
    refine g_iload (pc := 125) (j := 5) (dK D_FP_exchange_1 8 rfl) rfl ?_
    refine gdE h (fun hi11 h => ?_)
    refine vg_iaload (pc := 127) (j := a5.toNat) (dK D_FP_exchange_1 9 rfl) (hw_7_1 (hw_8_2 hc4)) rfl hi11 rfl ?_
    refine g_iloadn (pc := 128) (i0 := 1) (j := 1) (dK D_FP_exchange_1 10 rfl) rfl rfl ?_
    refine g_iloadn (pc := 129) (i0 := 2) (j := 2) (dK D_FP_exchange_1 11 rfl) rfl rfl ?_
    refine bnE h (fun p12 e_p12 h => ?_)
    refine vg_cS (pc := 130) (As := [V (g S (tgt (tgt c4 2) 1) a5.toNat), V a1, V a2]) (rest := [V a5, .ref (tgt (tgt c4 2) 1)]) (mc' := 0) (ms' := 0) (dK D_FP_exchange_1 12 rfl) K_FP_266 (fitK rfl) rfl (leK rfl) (leK rfl) (leK rfl) (tf_Plan_exchanged (g_in _ _ _) ha1 ha2 e_p12) (kcI (fun h_p12 => ?_))
    refine nmE h (fun S13 e_S13 h => ?_)
    refine vg_iastore (pc := 133) (z := p12) (dK D_FP_exchange_1 13 rfl) (hw_7_1 (hw_8_2 hc4)) rfl hi11 rfl e_S13 ?_
    refine nmE h (fun v14 e_v14 h => ?_)
    refine vg_iinc (pc := 134) (j := 5) (a := a5) (z := 1) (ls2 := [(5, V v14), (0, .ref c0), (1, V a1), (2, V a2), (3, V a3), (4, .ref c4)]) (dK D_FP_exchange_1 14 rfl) rfl e_v14 (ltK rfl) rfl ?_
    refine g_goto (pc := 137) (tgt := 94) (dK D_FP_exchange_1 15 rfl) rfl ?_
    refine gL_weak (ls' := [(0, .ref c0), (1, V a1), (2, V a2), (3, V a3), (4, .ref c4), (5, V v14)]) (sbc 1 rfl (sbc 2 rfl (sbc 3 rfl (sbc 4 rfl (sbc 5 rfl (sbc 0 rfl sbn)))))) ?_
    replace h := ih _ h
    exact h (Vn_in e_v14)
def fn_FP_exchange (c0 : Nat) (a1 : Int) (a2 : Int) (S : St) : Option (Nat × Int × St) := bnO (fn_FP_needPage c0 a1 S) fun p1 => if p1 = 0 then (bnO (fn_FP_needPage c0 a2 S) fun p2 => if p2 = 0 then (bnO (fn_Plan_exchangeReason (tgt c0 3) a1 a2 S) fun p3 => if p3 = 0 then (bnO (fn_History_keep (tgt c0 4) (tgt (tgt c0 3) 0) S) fun p4 => bnO (lo_FP_exchange_45 c0 a1 a2 p3 (tgt (tgt c0 3) 0) FU (0, p4)) fun p10 => bnO (lo_FP_exchange_94 c0 a1 a2 p3 (tgt (tgt c0 3) 0) FU (0, p10)) fun p16 => bnO (fn_Plan_recount (tgt c0 3) p16) fun p17 => some (0, p3, p17)) else (some (0, p3, S))) else (some (p2, 0, S))) else (some (p1, 0, S))
theorem tf_FP_exchange {E : EV} {X : XT} (hfl : X.2.2.2 = false) {c0 : Nat} (hc0 : HC X 10 c0) {a1 : Int} (ha1 : inR a1) {a2 : Int} (ha2 : inR a2) {S : St} {q : Nat × Int × St} (h : fn_FP_exchange c0 a1 a2 S = some q) : Ev E M_FP_exchange [.ref c0, V a1, V a2] (WX X S) 2 12 (KT X q.1 q.2.2 (KI X q.2.1 q.2.2)) := by
  refine Ev.of pn_FP rfl (leK rfl) ?_
  show Go E M_FP_exchange 2 12 0 [(0, .ref c0), (1, V a1), (2, V a2)] [] (WX X S) 0 0 (KT X q.1 q.2.2 (KI X q.2.1 q.2.2))
  unfold fn_FP_exchange at h
  refine g_aloadn (pc := 0) (i0 := 0) (j := 0) (dK D_FP_exchange_0 0 rfl) rfl rfl ?_
  refine g_iloadn (pc := 1) (i0 := 1) (j := 1) (dK D_FP_exchange_0 1 rfl) rfl rfl ?_
  refine bnE h (fun p1 e_p1 h => ?_)
  refine vg_cV (pc := 2) (As := [V a1]) (rest := []) (mc' := 1) (ms' := 6) (dK D_FP_exchange_0 2 rfl) K_FP_204 (fitK rfl) (ltK rfl) hc0 rfl (leK rfl) (leK rfl) (leK rfl) (tf_FP_needPage hfl hc0 ha1 e_p1) (kcT hfl (fun he20 => kcU ?_) (fun he20 => ⟨rfl, ?_⟩))
  · replace h := ifP h he20
    refine g_aloadn (pc := 5) (i0 := 0) (j := 0) (dK D_FP_exchange_0 3 rfl) rfl rfl ?_
    refine g_iloadn (pc := 6) (i0 := 2) (j := 2) (dK D_FP_exchange_0 4 rfl) rfl rfl ?_
    refine bnE h (fun p2 e_p2 h => ?_)
    refine vg_cV (pc := 7) (As := [V a2]) (rest := []) (mc' := 1) (ms' := 6) (dK D_FP_exchange_0 5 rfl) K_FP_204 (fitK rfl) (ltK rfl) hc0 rfl (leK rfl) (leK rfl) (leK rfl) (tf_FP_needPage hfl hc0 ha2 e_p2) (kcT hfl (fun he19 => kcU ?_) (fun he19 => ⟨rfl, ?_⟩))
    · replace h := ifP h he19
      refine g_aloadn (pc := 10) (i0 := 0) (j := 0) (dK D_FP_exchange_0 6 rfl) rfl rfl ?_
      refine vg_getO (pc := 11) (ci := 10) (f := 3) (dK D_FP_exchange_0 7 rfl) q_436 hc0 (ltK rfl) (ltK rfl) rfl ?_
      refine g_iloadn (pc := 14) (i0 := 1) (j := 1) (dK D_FP_exchange_0 8 rfl) rfl rfl ?_
      refine g_iloadn (pc := 15) (i0 := 2) (j := 2) (dK D_FP_exchange_0 9 rfl) rfl rfl ?_
      refine bnE h (fun p3 e_p3 h => ?_)
      refine vg_cV (pc := 16) (As := [V a1, V a2]) (rest := []) (mc' := 0) (ms' := 0) (dK D_FP_exchange_0 10 rfl) K_FP_263 (fitK rfl) (ltK rfl) (hw_10_3 hc0) rfl (leK rfl) (leK rfl) (leK rfl) (tf_Plan_exchangeReason (hw_10_3 hc0) ha1 ha2 e_p3) (kcI (fun h_p3 => ?_))
      refine g_istoren (pc := 19) (i0 := 3) (ls2 := [(3, V p3), (0, .ref c0), (1, V a1), (2, V a2)]) (dK D_FP_exchange_0 11 rfl) rfl (ltK rfl) rfl ?_
      refine g_iloadn (pc := 20) (i0 := 3) (j := 0) (dK D_FP_exchange_0 12 rfl) rfl rfl ?_
      refine vg_if_ne (pc := 21) (t := 147) (dK D_FP_exchange_0 13 rfl) rfl h_p3 (fun hc18 => ?_) (fun hc18 => ?_)
      · replace h := ifN h hc18
        refine g_iloadn (pc := 147) (i0 := 3) (j := 0) (dK D_FP_exchange_1 19 rfl) rfl rfl ?_
        exact vg_iretI (pc := 148) (r := p3) (dK D_FP_exchange_1 20 rfl) rfl (leK rfl) (leK rfl) (xf hfl) (by obtain rfl := Option.some.inj h; exact KT_ok ⟨rfl, h_p3, rfl⟩)
      · replace h := ifP h hc18
        refine g_aloadn (pc := 24) (i0 := 0) (j := 1) (dK D_FP_exchange_0 14 rfl) rfl rfl ?_
        refine vg_getO (pc := 25) (ci := 10) (f := 3) (dK D_FP_exchange_0 15 rfl) q_436 hc0 (ltK rfl) (ltK rfl) rfl ?_
        refine vg_getO (pc := 28) (ci := 4) (f := 0) (dK D_FP_exchange_0 16 rfl) q_303 (hw_10_3 hc0) (ltK rfl) (ltK rfl) rfl ?_
        refine g_astore (pc := 31) (ls2 := [(4, .ref (tgt (tgt c0 3) 0)), (3, V p3), (0, .ref c0), (1, V a1), (2, V a2)]) (dK D_FP_exchange_0 17 rfl) (ltK rfl) rfl ?_
        refine g_aloadn (pc := 33) (i0 := 0) (j := 2) (dK D_FP_exchange_0 18 rfl) rfl rfl ?_
        refine vg_getO (pc := 34) (ci := 10) (f := 4) (dK D_FP_exchange_0 19 rfl) q_437 hc0 (ltK rfl) (ltK rfl) rfl ?_
        refine g_aload (pc := 37) (j := 0) (dK D_FP_exchange_0 20 rfl) rfl ?_
        refine bnE h (fun p4 e_p4 h => ?_)
        refine vg_cV (pc := 39) (As := [.ref (tgt (tgt c0 3) 0)]) (rest := []) (mc' := 0) (ms' := 0) (dK D_FP_exchange_0 21 rfl) K_FP_155 (fitK rfl) (ltK rfl) (hw_10_4 hc0) rfl (leK rfl) (leK rfl) (leK rfl) (tf_History_keep (hw_10_4 hc0) (hw_4_0 (hw_10_3 hc0)) e_p4) (kcU ?_)
        refine vg_iconst (pc := 42) (dK D_FP_exchange_0 22 rfl) ?_
        refine g_istore (pc := 43) (ls2 := [(5, V 0), (4, .ref (tgt (tgt c0 3) 0)), (3, V p3), (0, .ref c0), (1, V a1), (2, V a2)]) (dK D_FP_exchange_0 23 rfl) (ltK rfl) rfl ?_
        refine bnE h (fun p10 e_p10 h => ?_)
        refine gL_weak (ls' := [(0, .ref c0), (1, V a1), (2, V a2), (3, V p3), (4, .ref (tgt (tgt c0 3) 0)), (5, V 0)]) (sbc 3 rfl (sbc 4 rfl (sbc 5 rfl (sbc 2 rfl (sbc 1 rfl (sbc 0 rfl sbn)))))) ?_
        refine tl_FP_exchange_45 hfl hc0 ha1 ha2 h_p3 (hw_4_0 (hw_10_3 hc0)) ?_ FU (0, p4) e_p10 (inRk rfl)
        refine vg_iconst (pc := 91) (dK D_FP_exchange_0 44 rfl) ?_
        refine g_istore (pc := 92) (ls2 := [(5, V 0), (0, .ref c0), (1, V a1), (2, V a2), (3, V p3), (4, .ref (tgt (tgt c0 3) 0))]) (dK D_FP_exchange_0 45 rfl) (ltK rfl) rfl ?_
        refine bnE h (fun p16 e_p16 h => ?_)
        refine gL_weak (ls' := [(0, .ref c0), (1, V a1), (2, V a2), (3, V p3), (4, .ref (tgt (tgt c0 3) 0)), (5, V 0)]) (sbc 1 rfl (sbc 2 rfl (sbc 3 rfl (sbc 4 rfl (sbc 5 rfl (sbc 0 rfl sbn)))))) ?_
        refine tl_FP_exchange_94 hfl hc0 ha1 ha2 h_p3 (hw_4_0 (hw_10_3 hc0)) ?_ FU (0, p10) e_p16 (inRk rfl)
        refine g_aloadn (pc := 140) (i0 := 0) (j := 0) (dK D_FP_exchange_1 16 rfl) rfl rfl ?_
        refine vg_getO (pc := 141) (ci := 10) (f := 3) (dK D_FP_exchange_1 17 rfl) q_436 hc0 (ltK rfl) (ltK rfl) rfl ?_
        refine bnE h (fun p17 e_p17 h => ?_)
        refine vg_cV (pc := 144) (As := []) (rest := []) (mc' := 0) (ms' := 0) (dK D_FP_exchange_1 18 rfl) K_FP_254 (fitK rfl) (ltK rfl) (hw_10_3 hc0) rfl (leK rfl) (leK rfl) (leK rfl) (tf_Plan_recount (hw_10_3 hc0) e_p17) (kcU ?_)
        refine g_iloadn (pc := 147) (i0 := 3) (j := 1) (dK D_FP_exchange_1 19 rfl) rfl rfl ?_
        exact vg_iretI (pc := 148) (r := p3) (dK D_FP_exchange_1 20 rfl) rfl (leK rfl) (leK rfl) (xf hfl) (by obtain rfl := Option.some.inj h; exact KT_ok ⟨rfl, h_p3, rfl⟩)
    · replace h := ifN h he19
      obtain rfl := Option.some.inj h
      exact KT_thr he19
  · replace h := ifN h he20
    obtain rfl := Option.some.inj h
    exact KT_thr he20
def fn_FP_setColor (c0 : Nat) (a1 : Int) (a2 : Int) (S : St) : Option (Nat × Bool × St) := bnO (fn_FP_needForm c0 a1 S) fun p1 => if p1 = 0 then (if 0 ≤ a1 ∧ a1 < 8 then (if (g S (tgt (tgt (tgt (tgt c0 3) 0) 3) 1) a1.toNat) = 1 then (some (0, false, S)) else (if a2 = 0 then (bnO (fn_Plan_hasColorItem (tgt c0 3) a1 S) fun p7 => if p7 = true then (some (0, false, S)) else (bnO (fn_History_keep (tgt c0 4) (tgt (tgt c0 3) 0) S) fun p9 => if a2 = 0 then (nm (u p9 (tgt (tgt (tgt (tgt c0 3) 0) 3) 0) a1.toNat 0) fun S10 => some (0, true, S10)) else (nm (u p9 (tgt (tgt (tgt (tgt c0 3) 0) 3) 0) a1.toNat 1) fun S11 => some (0, true, S11)))) else (bnO (fn_History_keep (tgt c0 4) (tgt (tgt c0 3) 0) S) fun p3 => if a2 = 0 then (nm (u p3 (tgt (tgt (tgt (tgt c0 3) 0) 3) 0) a1.toNat 0) fun S4 => some (0, true, S4)) else (nm (u p3 (tgt (tgt (tgt (tgt c0 3) 0) 3) 0) a1.toNat 1) fun S5 => some (0, true, S5))))) else none) else (some (p1, false, S))
theorem tf_FP_setColor {E : EV} {X : XT} (hfl : X.2.2.2 = false) {c0 : Nat} (hc0 : HC X 10 c0) {a1 : Int} (ha1 : inR a1) {a2 : Int} (ha2 : inR a2) {S : St} {q : Nat × Bool × St} (h : fn_FP_setColor c0 a1 a2 S = some q) : Ev E M_FP_setColor [.ref c0, V a1, V a2] (WX X S) 1 6 (KT X q.1 q.2.2 (KB X q.2.1 q.2.2)) := by
  refine Ev.of pn_FP rfl (leK rfl) ?_
  show Go E M_FP_setColor 1 6 0 [(0, .ref c0), (1, V a1), (2, V a2)] [] (WX X S) 0 0 (KT X q.1 q.2.2 (KB X q.2.1 q.2.2))
  unfold fn_FP_setColor at h
  refine g_aloadn (pc := 0) (i0 := 0) (j := 0) (dK D_FP_setColor 0 rfl) rfl rfl ?_
  refine g_iloadn (pc := 1) (i0 := 1) (j := 1) (dK D_FP_setColor 1 rfl) rfl rfl ?_
  refine bnE h (fun p1 e_p1 h => ?_)
  refine vg_cV (pc := 2) (As := [V a1]) (rest := []) (mc' := 1) (ms' := 6) (dK D_FP_setColor 2 rfl) K_FP_223 (fitK rfl) (ltK rfl) hc0 rfl (leK rfl) (leK rfl) (leK rfl) (tf_FP_needForm hfl hc0 ha1 e_p1) (kcT hfl (fun he15 => kcU ?_) (fun he15 => ⟨rfl, ?_⟩))
  · replace h := ifP h he15
    refine g_aloadn (pc := 5) (i0 := 0) (j := 0) (dK D_FP_setColor 3 rfl) rfl rfl ?_
    refine vg_getO (pc := 6) (ci := 10) (f := 3) (dK D_FP_setColor 4 rfl) q_436 hc0 (ltK rfl) (ltK rfl) rfl ?_
    refine vg_getO (pc := 9) (ci := 4) (f := 0) (dK D_FP_setColor 5 rfl) q_303 (hw_10_3 hc0) (ltK rfl) (ltK rfl) rfl ?_
    refine vg_getO (pc := 12) (ci := 8) (f := 3) (dK D_FP_setColor 6 rfl) q_248 (hw_4_0 (hw_10_3 hc0)) (ltK rfl) (ltK rfl) rfl ?_
    refine g_astoren (pc := 15) (i0 := 3) (ls2 := [(3, .ref (tgt (tgt (tgt c0 3) 0) 3)), (0, .ref c0), (1, V a1), (2, V a2)]) (dK D_FP_setColor 7 rfl) rfl (ltK rfl) rfl ?_
    refine g_aloadn (pc := 16) (i0 := 3) (j := 0) (dK D_FP_setColor 8 rfl) rfl rfl ?_
    refine vg_getA (pc := 17) (ci := 2) (f := 1) (dK D_FP_setColor 9 rfl) q_218 (hw_8_3 (hw_4_0 (hw_10_3 hc0))) (ltK rfl) (ltK rfl) rfl ?_
    refine g_iloadn (pc := 20) (i0 := 1) (j := 2) (dK D_FP_setColor 10 rfl) rfl rfl ?_
    refine gdE h (fun hi2 h => ?_)
    refine vg_iaload (pc := 21) (j := a1.toNat) (dK D_FP_setColor 11 rfl) (hw_2_1 (hw_8_3 (hw_4_0 (hw_10_3 hc0)))) rfl hi2 rfl ?_
    refine vg_iconst (pc := 22) (dK D_FP_setColor 12 rfl) ?_
    refine vg_icmp_eq (pc := 23) (t := 41) (dK D_FP_setColor 13 rfl) rfl (g_in _ _ _) (inRk rfl) (fun hc14 => ?_) (fun hc14 => ?_)
    · replace h := ifP h hc14
      refine vg_iconst (pc := 41) (dK D_FP_setColor 21 rfl) ?_
      exact vg_iretB (pc := 42) (b := false) (dK D_FP_setColor 22 rfl) rfl (leK rfl) (leK rfl) (xf hfl) (by obtain rfl := Option.some.inj h; exact KT_ok ⟨rfl, rfl⟩)
    · replace h := ifN h hc14
      refine g_iloadn (pc := 26) (i0 := 2) (j := 3) (dK D_FP_setColor 14 rfl) rfl rfl ?_
      refine vg_if_ne (pc := 27) (t := 43) (dK D_FP_setColor 15 rfl) rfl ha2 (fun hc13 => ?_) (fun hc13 => ?_)
      · replace h := ifN h hc13
        refine g_aloadn (pc := 43) (i0 := 0) (j := 1) (dK D_FP_setColor 23 rfl) rfl rfl ?_
        refine vg_getO (pc := 44) (ci := 10) (f := 4) (dK D_FP_setColor 24 rfl) q_437 hc0 (ltK rfl) (ltK rfl) rfl ?_
        refine g_aloadn (pc := 47) (i0 := 0) (j := 1) (dK D_FP_setColor 25 rfl) rfl rfl ?_
        refine vg_getO (pc := 48) (ci := 10) (f := 3) (dK D_FP_setColor 26 rfl) q_436 hc0 (ltK rfl) (ltK rfl) rfl ?_
        refine vg_getO (pc := 51) (ci := 4) (f := 0) (dK D_FP_setColor 27 rfl) q_303 (hw_10_3 hc0) (ltK rfl) (ltK rfl) rfl ?_
        refine bnE h (fun p3 e_p3 h => ?_)
        refine vg_cV (pc := 54) (As := [.ref (tgt (tgt c0 3) 0)]) (rest := []) (mc' := 0) (ms' := 0) (dK D_FP_setColor 28 rfl) K_FP_155 (fitK rfl) (ltK rfl) (hw_10_4 hc0) rfl (leK rfl) (leK rfl) (leK rfl) (tf_History_keep (hw_10_4 hc0) (hw_4_0 (hw_10_3 hc0)) e_p3) (kcU ?_)
        refine g_aloadn (pc := 57) (i0 := 3) (j := 0) (dK D_FP_setColor 29 rfl) rfl rfl ?_
        refine vg_getA (pc := 58) (ci := 2) (f := 0) (dK D_FP_setColor 30 rfl) q_214 (hw_8_3 (hw_4_0 (hw_10_3 hc0))) (ltK rfl) (ltK rfl) rfl ?_
        refine g_iloadn (pc := 61) (i0 := 1) (j := 2) (dK D_FP_setColor 31 rfl) rfl rfl ?_
        refine g_iloadn (pc := 62) (i0 := 2) (j := 3) (dK D_FP_setColor 32 rfl) rfl rfl ?_
        refine vg_if_eq (pc := 63) (t := 70) (dK D_FP_setColor 33 rfl) rfl ha2 (fun hc6 => ?_) (fun hc6 => ?_)
        · replace h := ifP h hc6
          refine vg_iconst (pc := 70) (dK D_FP_setColor 36 rfl) ?_
          refine nmE h (fun S4 e_S4 h => ?_)
          refine vg_iastore (pc := 71) (z := 0) (dK D_FP_setColor 37 rfl) (hw_2_0 (hw_8_3 (hw_4_0 (hw_10_3 hc0)))) rfl hi2 rfl e_S4 ?_
          refine vg_iconst (pc := 72) (dK D_FP_setColor 38 rfl) ?_
          exact vg_iretB (pc := 73) (b := true) (dK D_FP_setColor 39 rfl) rfl (leK rfl) (leK rfl) (xf hfl) (by obtain rfl := Option.some.inj h; exact KT_ok ⟨rfl, rfl⟩)
        · replace h := ifN h hc6
          refine vg_iconst (pc := 66) (dK D_FP_setColor 34 rfl) ?_
          refine g_goto (pc := 67) (tgt := 71) (dK D_FP_setColor 35 rfl) rfl ?_
          refine nmE h (fun S5 e_S5 h => ?_)
          refine vg_iastore (pc := 71) (z := 1) (dK D_FP_setColor 37 rfl) (hw_2_0 (hw_8_3 (hw_4_0 (hw_10_3 hc0)))) rfl hi2 rfl e_S5 ?_
          refine vg_iconst (pc := 72) (dK D_FP_setColor 38 rfl) ?_
          exact vg_iretB (pc := 73) (b := true) (dK D_FP_setColor 39 rfl) rfl (leK rfl) (leK rfl) (xf hfl) (by obtain rfl := Option.some.inj h; exact KT_ok ⟨rfl, rfl⟩)
      · replace h := ifP h hc13
        refine g_aloadn (pc := 30) (i0 := 0) (j := 1) (dK D_FP_setColor 16 rfl) rfl rfl ?_
        refine vg_getO (pc := 31) (ci := 10) (f := 3) (dK D_FP_setColor 17 rfl) q_436 hc0 (ltK rfl) (ltK rfl) rfl ?_
        refine g_iloadn (pc := 34) (i0 := 1) (j := 2) (dK D_FP_setColor 18 rfl) rfl rfl ?_
        refine bnE h (fun p7 e_p7 h => ?_)
        refine vg_cV (pc := 35) (As := [V a1]) (rest := []) (mc' := 0) (ms' := 0) (dK D_FP_setColor 19 rfl) K_FP_241 (fitK rfl) (ltK rfl) (hw_10_3 hc0) rfl (leK rfl) (leK rfl) (leK rfl) (tf_Plan_hasColorItem (hw_10_3 hc0) ha1 e_p7) (kcB ?_)
        refine vg_ifB_eq (pc := 38) (b := p7) (t := 43) (dK D_FP_setColor 20 rfl) rfl (fun hc8 => ?_) (fun hc8 => ?_)
        · replace h := ifP h hc8
          refine vg_iconst (pc := 41) (dK D_FP_setColor 21 rfl) ?_
          exact vg_iretB (pc := 42) (b := false) (dK D_FP_setColor 22 rfl) rfl (leK rfl) (leK rfl) (xf hfl) (by obtain rfl := Option.some.inj h; exact KT_ok ⟨rfl, rfl⟩)
        · replace h := ifN h hc8
          refine g_aloadn (pc := 43) (i0 := 0) (j := 1) (dK D_FP_setColor 23 rfl) rfl rfl ?_
          refine vg_getO (pc := 44) (ci := 10) (f := 4) (dK D_FP_setColor 24 rfl) q_437 hc0 (ltK rfl) (ltK rfl) rfl ?_
          refine g_aloadn (pc := 47) (i0 := 0) (j := 1) (dK D_FP_setColor 25 rfl) rfl rfl ?_
          refine vg_getO (pc := 48) (ci := 10) (f := 3) (dK D_FP_setColor 26 rfl) q_436 hc0 (ltK rfl) (ltK rfl) rfl ?_
          refine vg_getO (pc := 51) (ci := 4) (f := 0) (dK D_FP_setColor 27 rfl) q_303 (hw_10_3 hc0) (ltK rfl) (ltK rfl) rfl ?_
          refine bnE h (fun p9 e_p9 h => ?_)
          refine vg_cV (pc := 54) (As := [.ref (tgt (tgt c0 3) 0)]) (rest := []) (mc' := 0) (ms' := 0) (dK D_FP_setColor 28 rfl) K_FP_155 (fitK rfl) (ltK rfl) (hw_10_4 hc0) rfl (leK rfl) (leK rfl) (leK rfl) (tf_History_keep (hw_10_4 hc0) (hw_4_0 (hw_10_3 hc0)) e_p9) (kcU ?_)
          refine g_aloadn (pc := 57) (i0 := 3) (j := 0) (dK D_FP_setColor 29 rfl) rfl rfl ?_
          refine vg_getA (pc := 58) (ci := 2) (f := 0) (dK D_FP_setColor 30 rfl) q_214 (hw_8_3 (hw_4_0 (hw_10_3 hc0))) (ltK rfl) (ltK rfl) rfl ?_
          refine g_iloadn (pc := 61) (i0 := 1) (j := 2) (dK D_FP_setColor 31 rfl) rfl rfl ?_
          refine g_iloadn (pc := 62) (i0 := 2) (j := 3) (dK D_FP_setColor 32 rfl) rfl rfl ?_
          refine vg_if_eq (pc := 63) (t := 70) (dK D_FP_setColor 33 rfl) rfl ha2 (fun hc12 => ?_) (fun hc12 => ?_)
          · replace h := ifP h hc12
            refine vg_iconst (pc := 70) (dK D_FP_setColor 36 rfl) ?_
            refine nmE h (fun S10 e_S10 h => ?_)
            refine vg_iastore (pc := 71) (z := 0) (dK D_FP_setColor 37 rfl) (hw_2_0 (hw_8_3 (hw_4_0 (hw_10_3 hc0)))) rfl hi2 rfl e_S10 ?_
            refine vg_iconst (pc := 72) (dK D_FP_setColor 38 rfl) ?_
            exact vg_iretB (pc := 73) (b := true) (dK D_FP_setColor 39 rfl) rfl (leK rfl) (leK rfl) (xf hfl) (by obtain rfl := Option.some.inj h; exact KT_ok ⟨rfl, rfl⟩)
          · replace h := ifN h hc12
            refine vg_iconst (pc := 66) (dK D_FP_setColor 34 rfl) ?_
            refine g_goto (pc := 67) (tgt := 71) (dK D_FP_setColor 35 rfl) rfl ?_
            refine nmE h (fun S11 e_S11 h => ?_)
            refine vg_iastore (pc := 71) (z := 1) (dK D_FP_setColor 37 rfl) (hw_2_0 (hw_8_3 (hw_4_0 (hw_10_3 hc0)))) rfl hi2 rfl e_S11 ?_
            refine vg_iconst (pc := 72) (dK D_FP_setColor 38 rfl) ?_
            exact vg_iretB (pc := 73) (b := true) (dK D_FP_setColor 39 rfl) rfl (leK rfl) (leK rfl) (xf hfl) (by obtain rfl := Option.some.inj h; exact KT_ok ⟨rfl, rfl⟩)
  · replace h := ifN h he15
    obtain rfl := Option.some.inj h
    exact KT_thr he15
def lb_Standbys_unused_2 (c0 : Nat) (a1 : Int) (S : St) (go : Int → Option ((Int) ⊕ (Unit))) (a2 : Int) : Option ((Int) ⊕ (Unit)) := if (g S c0 2) ≤ a2 then (some (.inr ())) else (if 0 ≤ a2 ∧ a2 < 8 then (if (g S (tgt c0 1) a2.toNat) = 0 then (if (g S (tgt c0 0) a2.toNat) = a1 then (some (.inl a2)) else (nm (wr (a2 + 1)) fun v3 => go v3)) else (nm (wr (a2 + 1)) fun v2 => go v2)) else none)
def lo_Standbys_unused_2 (c0 : Nat) (a1 : Int) (S : St) : Nat → Int → Option ((Int) ⊕ (Unit)) := lp fun go p => lb_Standbys_unused_2 c0 a1 S go p
theorem tl_Standbys_unused_2 {E : EV} {X : XT} {c0 : Nat} (hc0 : HC X 7 c0) {a1 : Int} (ha1 : inR a1) {S : St} {K : RK → PS → Prop} {q : (Int) ⊕ (Unit)} (hx : ∀ p, q = .inr p → Go E M_Standbys_unused 0 0 37 [] [] (WX X S) 0 0 K) (hr : ∀ p, q = .inl p → inR p → K (.inl (some (V p))) (WX X S)) : ∀ n a, lo_Standbys_unused_2 c0 a1 S n a = some q → inR a → Go E M_Standbys_unused 0 0 2 [(0, .ref c0), (1, V a1), (2, V a)] [] (WX X S) 0 0 K := by
  refine lp_ind (P := fun a : Int => inR a → Go E M_Standbys_unused 0 0 2 [(0, .ref c0), (1, V a1), (2, V a)] [] (WX X S) 0 0 K) (fun go ih a2 h => ?_)
  intro ha2
  show Go E M_Standbys_unused 0 0 2 [(0, .ref c0), (1, V a1), (2, V a2)] [] (WX X S) 0 0 K
  replace h : lb_Standbys_unused_2 c0 a1 S go a2 = some q := h
  unfold lb_Standbys_unused_2 at h
  refine g_iloadn (pc := 2) (i0 := 2) (j := 2) (dK D_Standbys_unused 2 rfl) rfl rfl ?_
  refine g_aloadn (pc := 3) (i0 := 0) (j := 0) (dK D_Standbys_unused 3 rfl) rfl rfl ?_
  refine vg_getI (pc := 4) (ci := 7) (f := 2) (dK D_Standbys_unused 4 rfl) q_194 hc0 (ltK rfl) (ltK rfl) rfl ?_
  refine vg_icmp_ge (pc := 7) (t := 37) (dK D_Standbys_unused 5 rfl) rfl ha2 (g_in _ _ _) (fun hc6 => ?_) (fun hc6 => ?_)
  · replace h := ifP h hc6
    refine gL_weak (ls' := []) sbn ?_
    exact hx _ (Option.some.inj h).symm 
  · replace h := ifN h hc6
    refine g_aloadn (pc := 10) (i0 := 0) (j := 0) (dK D_Standbys_unused 6 rfl) rfl rfl ?_
    refine vg_getA (pc := 11) (ci := 7) (f := 1) (dK D_Standbys_unused 7 rfl) q_191 hc0 (ltK rfl) (ltK rfl) rfl ?_
    refine g_iloadn (pc := 14) (i0 := 2) (j := 2) (dK D_Standbys_unused 8 rfl) rfl rfl ?_
    refine gdE h (fun hi1 h => ?_)
    refine vg_iaload (pc := 15) (j := a2.toNat) (dK D_Standbys_unused 9 rfl) (hw_7_1 hc0) rfl hi1 rfl ?_
    refine vg_if_ne (pc := 16) (t := 31) (dK D_Standbys_unused 10 rfl) rfl (g_in _ _ _) (fun hc5 => ?_) (fun hc5 => ?_)
    · replace h := ifN h hc5
      refine nmE h (fun v2 e_v2 h => ?_)
      refine vg_iinc (pc := 31) (j := 2) (a := a2) (z := 1) (ls2 := [(2, V v2), (0, .ref c0), (1, V a1)]) (dK D_Standbys_unused 19 rfl) rfl e_v2 (ltK rfl) rfl ?_
      refine g_goto (pc := 34) (tgt := 2) (dK D_Standbys_unused 20 rfl) rfl ?_
      refine gL_weak (ls' := [(0, .ref c0), (1, V a1), (2, V v2)]) (sbc 1 rfl (sbc 2 rfl (sbc 0 rfl sbn))) ?_
      replace h := ih _ h
      exact h (Vn_in e_v2)
    · replace h := ifP h hc5
      refine g_aloadn (pc := 19) (i0 := 0) (j := 0) (dK D_Standbys_unused 11 rfl) rfl rfl ?_
      refine vg_getA (pc := 20) (ci := 7) (f := 0) (dK D_Standbys_unused 12 rfl) q_188 hc0 (ltK rfl) (ltK rfl) rfl ?_
      refine g_iloadn (pc := 23) (i0 := 2) (j := 2) (dK D_Standbys_unused 13 rfl) rfl rfl ?_
      refine vg_iaload (pc := 24) (j := a2.toNat) (dK D_Standbys_unused 14 rfl) (hw_7_0 hc0) rfl hi1 rfl ?_
      refine g_iloadn (pc := 25) (i0 := 1) (j := 1) (dK D_Standbys_unused 15 rfl) rfl rfl ?_
      refine vg_icmp_ne (pc := 26) (t := 31) (dK D_Standbys_unused 16 rfl) rfl (g_in _ _ _) ha1 (fun hc4 => ?_) (fun hc4 => ?_)
      · replace h := ifN h hc4
        refine nmE h (fun v3 e_v3 h => ?_)
        refine vg_iinc (pc := 31) (j := 2) (a := a2) (z := 1) (ls2 := [(2, V v3), (0, .ref c0), (1, V a1)]) (dK D_Standbys_unused 19 rfl) rfl e_v3 (ltK rfl) rfl ?_
        refine g_goto (pc := 34) (tgt := 2) (dK D_Standbys_unused 20 rfl) rfl ?_
        refine gL_weak (ls' := [(0, .ref c0), (1, V a1), (2, V v3)]) (sbc 1 rfl (sbc 2 rfl (sbc 0 rfl sbn))) ?_
        replace h := ih _ h
        exact h (Vn_in e_v3)
      · replace h := ifP h hc4
        refine g_iloadn (pc := 29) (i0 := 2) (j := 2) (dK D_Standbys_unused 17 rfl) rfl rfl ?_
        exact vg_iretI (pc := 30) (r := a2) (dK D_Standbys_unused 18 rfl) rfl (leK rfl) (leK rfl) (fun _ => rfl) (hr _ (Option.some.inj h).symm ha2)
def fn_Standbys_unused (c0 : Nat) (a1 : Int) (S : St) : Option (Int) := bnS (lo_Standbys_unused_2 c0 a1 S FU 0) (fun p8 => some p8) fun p7 => some (-1)
theorem tf_Standbys_unused {E : EV} {X : XT} {c0 : Nat} (hc0 : HC X 7 c0) {a1 : Int} (ha1 : inR a1) {S : St} {q : Int} (h : fn_Standbys_unused c0 a1 S = some q) : Ev E M_Standbys_unused [.ref c0, V a1] (WX X S) 0 0 (KI X q S) := by
  refine Ev.of pn_Standbys rfl (leK rfl) ?_
  show Go E M_Standbys_unused 0 0 0 [(0, .ref c0), (1, V a1)] [] (WX X S) 0 0 (KI X q S)
  unfold fn_Standbys_unused at h
  refine vg_iconst (pc := 0) (dK D_Standbys_unused 0 rfl) ?_
  refine g_istoren (pc := 1) (i0 := 2) (ls2 := [(2, V 0), (0, .ref c0), (1, V a1)]) (dK D_Standbys_unused 1 rfl) rfl (ltK rfl) rfl ?_
  refine bnSE h (fun p8 e_p8 h => ?_) (fun p7 e_p7 h => ?_)
  · refine gL_weak (ls' := [(0, .ref c0), (1, V a1), (2, V 0)]) (sbc 1 rfl (sbc 2 rfl (sbc 0 rfl sbn))) ?_
    refine tl_Standbys_unused_2 hc0 ha1 (fun _ e => slr e) (fun p e hr_p8 => ?_) FU 0 e_p8 (inRk rfl)
    have e := Sum.inl.inj e
    subst e
    exact (by obtain rfl := Option.some.inj h; exact ⟨rfl, hr_p8, rfl⟩)
  · refine gL_weak (ls' := [(0, .ref c0), (1, V a1), (2, V 0)]) (sbc 1 rfl (sbc 2 rfl (sbc 0 rfl sbn))) ?_
    refine tl_Standbys_unused_2 hc0 ha1 (fun p e => ?_) (fun _ e => srl e) FU 0 e_p7 (inRk rfl)
    have e := Sum.inr.inj e
    subst e
    refine vg_iconst (pc := 37) (dK D_Standbys_unused 21 rfl) ?_
    exact vg_iretI (pc := 38) (r := (-1)) (dK D_Standbys_unused 22 rfl) rfl (leK rfl) (leK rfl) (fun _ => rfl) (by obtain rfl := Option.some.inj h; exact ⟨rfl, (inRk rfl), rfl⟩)
def lb_Plan_replaceLateAds_10 (c0 : Nat) (a1 : Int) (c2 : Nat) (go : Int × St → Option (St)) (a3 : Int) (S : St) : Option (St) := if (g S c2 7) ≤ a3 then (some S) else (if 0 ≤ a3 ∧ a3 < 40 then (if (g S (tgt c2 6) a3.toNat) = a1 then (bnO (fn_Plan_isLate c0 (g S (tgt c2 5) a3.toNat) S) fun p3 => if p3 = true then (nm (u S (tgt c2 6) a3.toNat 0) fun S6 => nm (u S6 (tgt c0 0) 7 ((g S6 (tgt c0 0) 7) + (g S6 (tgt c2 4) a3.toNat))) fun S7 => bnO (fn_Standbys_unused (tgt (tgt c0 0) 2) (g S7 (tgt c2 0) a3.toNat) S7) fun p8 => if p8 = (-1) then (nm (wr (a3 + 1)) fun v9 => go (v9, S7)) else (if 0 ≤ p8 ∧ p8 < 8 then (nm (u S7 (tgt (tgt (tgt c0 0) 2) 1) p8.toNat a1) fun S11 => nm (wr (a3 + 1)) fun v12 => go (v12, S11)) else none)) else (nm (wr (a3 + 1)) fun v5 => go (v5, S))) else (nm (wr (a3 + 1)) fun v2 => go (v2, S))) else none)
def lo_Plan_replaceLateAds_10 (c0 : Nat) (a1 : Int) (c2 : Nat) : Nat → Int × St → Option (St) := lp fun go p => lb_Plan_replaceLateAds_10 c0 a1 c2 go p.1 p.2
theorem tl_Plan_replaceLateAds_10 {E : EV} {X : XT} {c0 : Nat} (hc0 : HC X 4 c0) {a1 : Int} (ha1 : inR a1) {c2 : Nat} (hc2 : HC X 0 c2) {K : RK → PS → Prop} {q : St} (hx : Go E M_Plan_replaceLateAds 0 0 110 [] [] (WX X q) 0 0 K) : ∀ n a, lo_Plan_replaceLateAds_10 c0 a1 c2 n a = some q → inR a.1 → Go E M_Plan_replaceLateAds 0 0 10 [(0, .ref c0), (1, V a1), (2, .ref c2), (3, V a.1)] [] (WX X a.2) 0 0 K := by
  refine lp_ind (P := fun a : Int × St => inR a.1 → Go E M_Plan_replaceLateAds 0 0 10 [(0, .ref c0), (1, V a1), (2, .ref c2), (3, V a.1)] [] (WX X a.2) 0 0 K) (fun go ih a h => ?_)
  obtain ⟨a3, S⟩ := a
  intro ha3
  show Go E M_Plan_replaceLateAds 0 0 10 [(0, .ref c0), (1, V a1), (2, .ref c2), (3, V a3)] [] (WX X S) 0 0 K
  replace h : lb_Plan_replaceLateAds_10 c0 a1 c2 go a3 S = some q := h
  unfold lb_Plan_replaceLateAds_10 at h
  refine g_iloadn (pc := 10) (i0 := 3) (j := 3) (dK D_Plan_replaceLateAds_0 6 rfl) rfl rfl ?_
  refine g_aloadn (pc := 11) (i0 := 2) (j := 2) (dK D_Plan_replaceLateAds_0 7 rfl) rfl rfl ?_
  refine vg_getI (pc := 12) (ci := 0) (f := 7) (dK D_Plan_replaceLateAds_0 8 rfl) q_118 hc2 (ltK rfl) (ltK rfl) rfl ?_
  refine vg_icmp_ge (pc := 15) (t := 110) (dK D_Plan_replaceLateAds_0 9 rfl) rfl ha3 (g_in _ _ _) (fun hc15 => ?_) (fun hc15 => ?_)
  · replace h := ifP h hc15
    obtain rfl := Option.some.inj h
    refine gL_weak (ls' := []) sbn ?_
    exact hx 
  · replace h := ifN h hc15
    refine g_aloadn (pc := 18) (i0 := 2) (j := 2) (dK D_Plan_replaceLateAds_0 10 rfl) rfl rfl ?_
    refine vg_getA (pc := 19) (ci := 0) (f := 6) (dK D_Plan_replaceLateAds_0 11 rfl) q_113 hc2 (ltK rfl) (ltK rfl) rfl ?_
    refine g_iloadn (pc := 22) (i0 := 3) (j := 3) (dK D_Plan_replaceLateAds_0 12 rfl) rfl rfl ?_
    refine gdE h (fun hi1 h => ?_)
    refine vg_iaload (pc := 23) (j := a3.toNat) (dK D_Plan_replaceLateAds_0 13 rfl) (hw_0_6 hc2) rfl hi1 rfl ?_
    refine g_iloadn (pc := 24) (i0 := 1) (j := 1) (dK D_Plan_replaceLateAds_0 14 rfl) rfl rfl ?_
    refine vg_icmp_ne (pc := 25) (t := 104) (dK D_Plan_replaceLateAds_0 15 rfl) rfl (g_in _ _ _) ha1 (fun hc14 => ?_) (fun hc14 => ?_)
    · replace h := ifN h hc14
      refine nmE h (fun v2 e_v2 h => ?_)
      refine vg_iinc (pc := 104) (j := 3) (a := a3) (z := 1) (ls2 := [(3, V v2), (0, .ref c0), (1, V a1), (2, .ref c2)]) (dK D_Plan_replaceLateAds_1 7 rfl) rfl e_v2 (ltK rfl) rfl ?_
      refine g_goto (pc := 107) (tgt := 10) (dK D_Plan_replaceLateAds_1 8 rfl) rfl ?_
      refine gL_weak (ls' := [(0, .ref c0), (1, V a1), (2, .ref c2), (3, V v2)]) (sbc 1 rfl (sbc 2 rfl (sbc 3 rfl (sbc 0 rfl sbn)))) ?_
      replace h := ih _ h
      exact h (Vn_in e_v2)
    · replace h := ifP h hc14
      refine g_aloadn (pc := 28) (i0 := 0) (j := 0) (dK D_Plan_replaceLateAds_0 16 rfl) rfl rfl ?_
      refine g_aloadn (pc := 29) (i0 := 2) (j := 2) (dK D_Plan_replaceLateAds_0 17 rfl) rfl rfl ?_
      refine vg_getA (pc := 30) (ci := 0) (f := 5) (dK D_Plan_replaceLateAds_0 18 rfl) q_110 hc2 (ltK rfl) (ltK rfl) rfl ?_
      refine g_iloadn (pc := 33) (i0 := 3) (j := 3) (dK D_Plan_replaceLateAds_0 19 rfl) rfl rfl ?_
      refine vg_iaload (pc := 34) (j := a3.toNat) (dK D_Plan_replaceLateAds_0 20 rfl) (hw_0_5 hc2) rfl hi1 rfl ?_
      refine bnE h (fun p3 e_p3 h => ?_)
      refine vg_cV (pc := 35) (As := [V (g S (tgt c2 5) a3.toNat)]) (rest := []) (mc' := 0) (ms' := 0) (dK D_Plan_replaceLateAds_0 21 rfl) K_Plan_186 (fitK rfl) (ltK rfl) hc0 rfl (leK rfl) (leK rfl) (leK rfl) (tf_Plan_isLate hc0 (g_in _ _ _) e_p3) (kcB ?_)
      refine vg_ifB_eq (pc := 38) (b := p3) (t := 104) (dK D_Plan_replaceLateAds_0 22 rfl) rfl (fun hc4 => ?_) (fun hc4 => ?_)
      · replace h := ifP h hc4
        refine g_aloadn (pc := 41) (i0 := 2) (j := 2) (dK D_Plan_replaceLateAds_0 23 rfl) rfl rfl ?_
        refine vg_getA (pc := 42) (ci := 0) (f := 6) (dK D_Plan_replaceLateAds_0 24 rfl) q_113 hc2 (ltK rfl) (ltK rfl) rfl ?_
        refine g_iloadn (pc := 45) (i0 := 3) (j := 3) (dK D_Plan_replaceLateAds_0 25 rfl) rfl rfl ?_
        refine vg_iconst (pc := 46) (dK D_Plan_replaceLateAds_0 26 rfl) ?_
        refine nmE h (fun S6 e_S6 h => ?_)
        refine vg_iastore (pc := 47) (z := 0) (dK D_Plan_replaceLateAds_0 27 rfl) (hw_0_6 hc2) rfl hi1 rfl e_S6 ?_
        refine g_aloadn (pc := 48) (i0 := 0) (j := 0) (dK D_Plan_replaceLateAds_0 28 rfl) rfl rfl ?_
        refine vg_getO (pc := 49) (ci := 4) (f := 0) (dK D_Plan_replaceLateAds_0 29 rfl) q_301 hc0 (ltK rfl) (ltK rfl) rfl ?_
        refine g_dup (pc := 52) (dK D_Plan_replaceLateAds_0 30 rfl) rfl ?_
        refine vg_getI (pc := 53) (ci := 8) (f := 7) (dK D_Plan_replaceLateAds_0 31 rfl) q_259 (hw_4_0 hc0) (ltK rfl) (ltK rfl) rfl ?_
        refine g_aloadn (pc := 56) (i0 := 2) (j := 2) (dK D_Plan_replaceLateAds_0 32 rfl) rfl rfl ?_
        refine vg_getA (pc := 57) (ci := 0) (f := 4) (dK D_Plan_replaceLateAds_0 33 rfl) q_106 hc2 (ltK rfl) (ltK rfl) rfl ?_
        refine g_iloadn (pc := 60) (i0 := 3) (j := 3) (dK D_Plan_replaceLateAds_0 34 rfl) rfl rfl ?_
        refine vg_iaload (pc := 61) (j := a3.toNat) (dK D_Plan_replaceLateAds_0 35 rfl) (hw_0_4 hc2) rfl hi1 rfl ?_
        refine vg_iadd (pc := 62) (dK D_Plan_replaceLateAds_0 36 rfl) ?_
        refine nmE h (fun S7 e_S7 h => ?_)
        refine vg_putI (pc := 63) (ci := 8) (f := 7) (z := ((g S6 (tgt c0 0) 7) + (g S6 (tgt c2 4) a3.toNat))) (dK D_Plan_replaceLateAds_0 37 rfl) q_259 (hw_4_0 hc0) (ltK rfl) (ltK rfl) rfl rfl e_S7 ?_
        refine g_aloadn (pc := 66) (i0 := 0) (j := 0) (dK D_Plan_replaceLateAds_0 38 rfl) rfl rfl ?_
        refine vg_getO (pc := 67) (ci := 4) (f := 0) (dK D_Plan_replaceLateAds_0 39 rfl) q_301 hc0 (ltK rfl) (ltK rfl) rfl ?_
        refine vg_getO (pc := 70) (ci := 8) (f := 2) (dK D_Plan_replaceLateAds_0 40 rfl) q_242 (hw_4_0 hc0) (ltK rfl) (ltK rfl) rfl ?_
        refine g_aloadn (pc := 73) (i0 := 2) (j := 2) (dK D_Plan_replaceLateAds_0 41 rfl) rfl rfl ?_
        refine vg_getA (pc := 74) (ci := 0) (f := 0) (dK D_Plan_replaceLateAds_0 42 rfl) q_89 hc2 (ltK rfl) (ltK rfl) rfl ?_
        refine g_iloadn (pc := 77) (i0 := 3) (j := 3) (dK D_Plan_replaceLateAds_0 43 rfl) rfl rfl ?_
        refine vg_iaload (pc := 78) (j := a3.toNat) (dK D_Plan_replaceLateAds_0 44 rfl) (hw_0_0 hc2) rfl hi1 rfl ?_
        refine bnE h (fun p8 e_p8 h => ?_)
        refine vg_cV (pc := 79) (As := [V (g S7 (tgt c2 0) a3.toNat)]) (rest := []) (mc' := 0) (ms' := 0) (dK D_Plan_replaceLateAds_0 45 rfl) K_Plan_204 (fitK rfl) (ltK rfl) (hw_8_2 (hw_4_0 hc0)) rfl (leK rfl) (leK rfl) (leK rfl) (tf_Standbys_unused (hw_8_2 (hw_4_0 hc0)) (g_in _ _ _) e_p8) (kcI (fun h_p8 => ?_))
        refine g_istore (pc := 82) (ls2 := [(4, V p8), (0, .ref c0), (1, V a1), (2, .ref c2), (3, V a3)]) (dK D_Plan_replaceLateAds_0 46 rfl) (ltK rfl) rfl ?_
        refine g_iload (pc := 84) (j := 0) (dK D_Plan_replaceLateAds_0 47 rfl) rfl ?_
        refine vg_iconst (pc := 86) (dK D_Plan_replaceLateAds_0 48 rfl) ?_
        refine vg_icmp_eq (pc := 87) (t := 104) (dK D_Plan_replaceLateAds_0 49 rfl) rfl h_p8 (inRk rfl) (fun hc13 => ?_) (fun hc13 => ?_)
        · replace h := ifP h hc13
          refine nmE h (fun v9 e_v9 h => ?_)
          refine vg_iinc (pc := 104) (j := 4) (a := a3) (z := 1) (ls2 := [(3, V v9), (4, V p8), (0, .ref c0), (1, V a1), (2, .ref c2)]) (dK D_Plan_replaceLateAds_1 7 rfl) rfl e_v9 (ltK rfl) rfl ?_
          refine g_goto (pc := 107) (tgt := 10) (dK D_Plan_replaceLateAds_1 8 rfl) rfl ?_
          refine gL_weak (ls' := [(0, .ref c0), (1, V a1), (2, .ref c2), (3, V v9)]) (sbc 2 rfl (sbc 3 rfl (sbc 4 rfl (sbc 0 rfl sbn)))) ?_
          replace h := ih _ h
          exact h (Vn_in e_v9)
        · replace h := ifN h hc13
          refine g_aloadn (pc := 90) (i0 := 0) (j := 1) (dK D_Plan_replaceLateAds_1 0 rfl) rfl rfl ?_
          refine vg_getO (pc := 91) (ci := 4) (f := 0) (dK D_Plan_replaceLateAds_1 1 rfl) q_301 hc0 (ltK rfl) (ltK rfl) rfl ?_
          refine vg_getO (pc := 94) (ci := 8) (f := 2) (dK D_Plan_replaceLateAds_1 2 rfl) q_242 (hw_4_0 hc0) (ltK rfl) (ltK rfl) rfl ?_
          refine vg_getA (pc := 97) (ci := 7) (f := 1) (dK D_Plan_replaceLateAds_1 3 rfl) q_192 (hw_8_2 (hw_4_0 hc0)) (ltK rfl) (ltK rfl) rfl ?_
          refine g_iload (pc := 100) (j := 0) (dK D_Plan_replaceLateAds_1 4 rfl) rfl ?_
          refine g_iloadn (pc := 102) (i0 := 1) (j := 2) (dK D_Plan_replaceLateAds_1 5 rfl) rfl rfl ?_
          refine gdE h (fun hi10 h => ?_)
          refine nmE h (fun S11 e_S11 h => ?_)
          refine vg_iastore (pc := 103) (z := a1) (dK D_Plan_replaceLateAds_1 6 rfl) (hw_7_1 (hw_8_2 (hw_4_0 hc0))) rfl hi10 rfl e_S11 ?_
          refine nmE h (fun v12 e_v12 h => ?_)
          refine vg_iinc (pc := 104) (j := 4) (a := a3) (z := 1) (ls2 := [(3, V v12), (4, V p8), (0, .ref c0), (1, V a1), (2, .ref c2)]) (dK D_Plan_replaceLateAds_1 7 rfl) rfl e_v12 (ltK rfl) rfl ?_
          refine g_goto (pc := 107) (tgt := 10) (dK D_Plan_replaceLateAds_1 8 rfl) rfl ?_
          refine gL_weak (ls' := [(0, .ref c0), (1, V a1), (2, .ref c2), (3, V v12)]) (sbc 2 rfl (sbc 3 rfl (sbc 4 rfl (sbc 0 rfl sbn)))) ?_
          replace h := ih _ h
          exact h (Vn_in e_v12)
      · replace h := ifN h hc4
        refine nmE h (fun v5 e_v5 h => ?_)
        refine vg_iinc (pc := 104) (j := 3) (a := a3) (z := 1) (ls2 := [(3, V v5), (0, .ref c0), (1, V a1), (2, .ref c2)]) (dK D_Plan_replaceLateAds_1 7 rfl) rfl e_v5 (ltK rfl) rfl ?_
        refine g_goto (pc := 107) (tgt := 10) (dK D_Plan_replaceLateAds_1 8 rfl) rfl ?_
        refine gL_weak (ls' := [(0, .ref c0), (1, V a1), (2, .ref c2), (3, V v5)]) (sbc 1 rfl (sbc 2 rfl (sbc 3 rfl (sbc 0 rfl sbn)))) ?_
        replace h := ih _ h
        exact h (Vn_in e_v5)
def fn_Plan_replaceLateAds (c0 : Nat) (a1 : Int) (S : St) : Option (St) := bnO (lo_Plan_replaceLateAds_10 c0 a1 (tgt (tgt c0 0) 0) FU (0, S)) fun p16 => some p16
theorem tf_Plan_replaceLateAds {E : EV} {X : XT} {c0 : Nat} (hc0 : HC X 4 c0) {a1 : Int} (ha1 : inR a1) {S : St} {q : St} (h : fn_Plan_replaceLateAds c0 a1 S = some q) : Ev E M_Plan_replaceLateAds [.ref c0, V a1] (WX X S) 0 0 (KU X q) := by
  refine Ev.of pn_Plan rfl (leK rfl) ?_
  show Go E M_Plan_replaceLateAds 0 0 0 [(0, .ref c0), (1, V a1)] [] (WX X S) 0 0 (KU X q)
  unfold fn_Plan_replaceLateAds at h
  refine g_aloadn (pc := 0) (i0 := 0) (j := 0) (dK D_Plan_replaceLateAds_0 0 rfl) rfl rfl ?_
  refine vg_getO (pc := 1) (ci := 4) (f := 0) (dK D_Plan_replaceLateAds_0 1 rfl) q_301 hc0 (ltK rfl) (ltK rfl) rfl ?_
  refine vg_getO (pc := 4) (ci := 8) (f := 0) (dK D_Plan_replaceLateAds_0 2 rfl) q_233 (hw_4_0 hc0) (ltK rfl) (ltK rfl) rfl ?_
  refine g_astoren (pc := 7) (i0 := 2) (ls2 := [(2, .ref (tgt (tgt c0 0) 0)), (0, .ref c0), (1, V a1)]) (dK D_Plan_replaceLateAds_0 3 rfl) rfl (ltK rfl) rfl ?_
  refine vg_iconst (pc := 8) (dK D_Plan_replaceLateAds_0 4 rfl) ?_
  refine g_istoren (pc := 9) (i0 := 3) (ls2 := [(3, V 0), (2, .ref (tgt (tgt c0 0) 0)), (0, .ref c0), (1, V a1)]) (dK D_Plan_replaceLateAds_0 5 rfl) rfl (ltK rfl) rfl ?_
  refine bnE h (fun p16 e_p16 h => ?_)
  refine gL_weak (ls' := [(0, .ref c0), (1, V a1), (2, .ref (tgt (tgt c0 0) 0)), (3, V 0)]) (sbc 2 rfl (sbc 3 rfl (sbc 1 rfl (sbc 0 rfl sbn)))) ?_
  refine tl_Plan_replaceLateAds_10 hc0 ha1 (hw_8_0 (hw_4_0 hc0)) ?_ FU (0, S) e_p16 (inRk rfl)
  exact g_return (pc := 110) (dK D_Plan_replaceLateAds_1 9 rfl) rfl (leK rfl) (leK rfl) (fun _ => rfl) (by obtain rfl := Option.some.inj h; exact ⟨rfl, rfl⟩)
def lb_Plan_closeForm_2 (c0 : Nat) (a1 : Int) (go : Int × St → Option (St)) (a2 : Int) (S : St) : Option (St) := if (g S (tgt (tgt c0 0) 1) 5) ≤ a2 then (some S) else (if 0 ≤ a2 ∧ a2 < 10 then (bnO (fn_Plan_isLate c0 (g S (tgt (tgt (tgt c0 0) 1) 3) a2.toNat) S) fun p2 => if p2 = true then (bnO (fn_Plan_storyIsOn c0 a2 a1 S) fun p5 => if p5 = true then (nm (u S (tgt (tgt (tgt c0 0) 1) 4) a2.toNat 0) fun S8 => nm (wr (a2 + 1)) fun v9 => go (v9, S8)) else (nm (wr (a2 + 1)) fun v7 => go (v7, S))) else (nm (wr (a2 + 1)) fun v4 => go (v4, S))) else none)
def lo_Plan_closeForm_2 (c0 : Nat) (a1 : Int) : Nat → Int × St → Option (St) := lp fun go p => lb_Plan_closeForm_2 c0 a1 go p.1 p.2
theorem tl_Plan_closeForm_2 {E : EV} {X : XT} {c0 : Nat} (hc0 : HC X 4 c0) {a1 : Int} (ha1 : inR a1) {K : RK → PS → Prop} {q : St} (hx : Go E M_Plan_closeForm 0 0 63 [(0, .ref c0), (1, V a1)] [] (WX X q) 0 0 K) : ∀ n a, lo_Plan_closeForm_2 c0 a1 n a = some q → inR a.1 → Go E M_Plan_closeForm 0 0 2 [(0, .ref c0), (1, V a1), (2, V a.1)] [] (WX X a.2) 0 0 K := by
  refine lp_ind (P := fun a : Int × St => inR a.1 → Go E M_Plan_closeForm 0 0 2 [(0, .ref c0), (1, V a1), (2, V a.1)] [] (WX X a.2) 0 0 K) (fun go ih a h => ?_)
  obtain ⟨a2, S⟩ := a
  intro ha2
  show Go E M_Plan_closeForm 0 0 2 [(0, .ref c0), (1, V a1), (2, V a2)] [] (WX X S) 0 0 K
  replace h : lb_Plan_closeForm_2 c0 a1 go a2 S = some q := h
  unfold lb_Plan_closeForm_2 at h
  refine g_iloadn (pc := 2) (i0 := 2) (j := 2) (dK D_Plan_closeForm_0 2 rfl) rfl rfl ?_
  refine g_aloadn (pc := 3) (i0 := 0) (j := 0) (dK D_Plan_closeForm_0 3 rfl) rfl rfl ?_
  refine vg_getO (pc := 4) (ci := 4) (f := 0) (dK D_Plan_closeForm_0 4 rfl) q_301 hc0 (ltK rfl) (ltK rfl) rfl ?_
  refine vg_getO (pc := 7) (ci := 8) (f := 1) (dK D_Plan_closeForm_0 5 rfl) q_237 (hw_4_0 hc0) (ltK rfl) (ltK rfl) rfl ?_
  refine vg_getI (pc := 10) (ci := 9) (f := 5) (dK D_Plan_closeForm_0 6 rfl) q_165 (hw_8_1 (hw_4_0 hc0)) (ltK rfl) (ltK rfl) rfl ?_
  refine vg_icmp_ge (pc := 13) (t := 63) (dK D_Plan_closeForm_0 7 rfl) rfl ha2 (g_in _ _ _) (fun hc10 => ?_) (fun hc10 => ?_)
  · replace h := ifP h hc10
    obtain rfl := Option.some.inj h
    refine gL_weak (ls' := [(0, .ref c0), (1, V a1)]) (sbc 0 rfl (sbc 1 rfl sbn)) ?_
    exact hx 
  · replace h := ifN h hc10
    refine g_aloadn (pc := 16) (i0 := 0) (j := 0) (dK D_Plan_closeForm_0 8 rfl) rfl rfl ?_
    refine g_aloadn (pc := 17) (i0 := 0) (j := 0) (dK D_Plan_closeForm_0 9 rfl) rfl rfl ?_
    refine vg_getO (pc := 18) (ci := 4) (f := 0) (dK D_Plan_closeForm_0 10 rfl) q_301 hc0 (ltK rfl) (ltK rfl) rfl ?_
    refine vg_getO (pc := 21) (ci := 8) (f := 1) (dK D_Plan_closeForm_0 11 rfl) q_237 (hw_4_0 hc0) (ltK rfl) (ltK rfl) rfl ?_
    refine vg_getA (pc := 24) (ci := 9) (f := 3) (dK D_Plan_closeForm_0 12 rfl) q_158 (hw_8_1 (hw_4_0 hc0)) (ltK rfl) (ltK rfl) rfl ?_
    refine g_iloadn (pc := 27) (i0 := 2) (j := 2) (dK D_Plan_closeForm_0 13 rfl) rfl rfl ?_
    refine gdE h (fun hi1 h => ?_)
    refine vg_iaload (pc := 28) (j := a2.toNat) (dK D_Plan_closeForm_0 14 rfl) (hw_9_3 (hw_8_1 (hw_4_0 hc0))) rfl hi1 rfl ?_
    refine bnE h (fun p2 e_p2 h => ?_)
    refine vg_cV (pc := 29) (As := [V (g S (tgt (tgt (tgt c0 0) 1) 3) a2.toNat)]) (rest := []) (mc' := 0) (ms' := 0) (dK D_Plan_closeForm_0 15 rfl) K_Plan_186 (fitK rfl) (ltK rfl) hc0 rfl (leK rfl) (leK rfl) (leK rfl) (tf_Plan_isLate hc0 (g_in _ _ _) e_p2) (kcB ?_)
    refine vg_ifB_eq (pc := 32) (b := p2) (t := 57) (dK D_Plan_closeForm_0 16 rfl) rfl (fun hc3 => ?_) (fun hc3 => ?_)
    · replace h := ifP h hc3
      refine g_aloadn (pc := 35) (i0 := 0) (j := 0) (dK D_Plan_closeForm_0 17 rfl) rfl rfl ?_
      refine g_iloadn (pc := 36) (i0 := 2) (j := 2) (dK D_Plan_closeForm_0 18 rfl) rfl rfl ?_
      refine g_iloadn (pc := 37) (i0 := 1) (j := 1) (dK D_Plan_closeForm_0 19 rfl) rfl rfl ?_
      refine bnE h (fun p5 e_p5 h => ?_)
      refine vg_cV (pc := 38) (As := [V a2, V a1]) (rest := []) (mc' := 0) (ms' := 0) (dK D_Plan_closeForm_0 20 rfl) K_Plan_180 (fitK rfl) (ltK rfl) hc0 rfl (leK rfl) (leK rfl) (leK rfl) (tf_Plan_storyIsOn hc0 ha2 ha1 e_p5) (kcB ?_)
      refine vg_ifB_eq (pc := 41) (b := p5) (t := 57) (dK D_Plan_closeForm_0 21 rfl) rfl (fun hc6 => ?_) (fun hc6 => ?_)
      · replace h := ifP h hc6
        refine g_aloadn (pc := 44) (i0 := 0) (j := 0) (dK D_Plan_closeForm_0 22 rfl) rfl rfl ?_
        refine vg_getO (pc := 45) (ci := 4) (f := 0) (dK D_Plan_closeForm_0 23 rfl) q_301 hc0 (ltK rfl) (ltK rfl) rfl ?_
        refine vg_getO (pc := 48) (ci := 8) (f := 1) (dK D_Plan_closeForm_0 24 rfl) q_237 (hw_4_0 hc0) (ltK rfl) (ltK rfl) rfl ?_
        refine vg_getA (pc := 51) (ci := 9) (f := 4) (dK D_Plan_closeForm_0 25 rfl) q_161 (hw_8_1 (hw_4_0 hc0)) (ltK rfl) (ltK rfl) rfl ?_
        refine g_iloadn (pc := 54) (i0 := 2) (j := 2) (dK D_Plan_closeForm_0 26 rfl) rfl rfl ?_
        refine vg_iconst (pc := 55) (dK D_Plan_closeForm_0 27 rfl) ?_
        refine nmE h (fun S8 e_S8 h => ?_)
        refine vg_iastore (pc := 56) (z := 0) (dK D_Plan_closeForm_0 28 rfl) (hw_9_4 (hw_8_1 (hw_4_0 hc0))) rfl hi1 rfl e_S8 ?_
        refine nmE h (fun v9 e_v9 h => ?_)
        refine vg_iinc (pc := 57) (j := 2) (a := a2) (z := 1) (ls2 := [(2, V v9), (0, .ref c0), (1, V a1)]) (dK D_Plan_closeForm_0 29 rfl) rfl e_v9 (ltK rfl) rfl ?_
        refine g_goto (pc := 60) (tgt := 2) (dK D_Plan_closeForm_0 30 rfl) rfl ?_
        refine gL_weak (ls' := [(0, .ref c0), (1, V a1), (2, V v9)]) (sbc 1 rfl (sbc 2 rfl (sbc 0 rfl sbn))) ?_
        replace h := ih _ h
        exact h (Vn_in e_v9)
      · replace h := ifN h hc6
        refine nmE h (fun v7 e_v7 h => ?_)
        refine vg_iinc (pc := 57) (j := 2) (a := a2) (z := 1) (ls2 := [(2, V v7), (0, .ref c0), (1, V a1)]) (dK D_Plan_closeForm_0 29 rfl) rfl e_v7 (ltK rfl) rfl ?_
        refine g_goto (pc := 60) (tgt := 2) (dK D_Plan_closeForm_0 30 rfl) rfl ?_
        refine gL_weak (ls' := [(0, .ref c0), (1, V a1), (2, V v7)]) (sbc 1 rfl (sbc 2 rfl (sbc 0 rfl sbn))) ?_
        replace h := ih _ h
        exact h (Vn_in e_v7)
    · replace h := ifN h hc3
      refine nmE h (fun v4 e_v4 h => ?_)
      refine vg_iinc (pc := 57) (j := 2) (a := a2) (z := 1) (ls2 := [(2, V v4), (0, .ref c0), (1, V a1)]) (dK D_Plan_closeForm_0 29 rfl) rfl e_v4 (ltK rfl) rfl ?_
      refine g_goto (pc := 60) (tgt := 2) (dK D_Plan_closeForm_0 30 rfl) rfl ?_
      refine gL_weak (ls' := [(0, .ref c0), (1, V a1), (2, V v4)]) (sbc 1 rfl (sbc 2 rfl (sbc 0 rfl sbn))) ?_
      replace h := ih _ h
      exact h (Vn_in e_v4)
def lb_Plan_closeForm_65 (c0 : Nat) (a1 : Int) (go : Int × St → Option (St)) (a2 : Int) (S : St) : Option (St) := if (g S c0 1) < a2 then (some S) else (if 0 ≤ a2 ∧ a2 < 65 then (if (g S (tgt c0 3) a2.toNat) = a1 then (bnO (fn_Plan_replaceLateAds c0 a2 S) fun p14 => nm (wr (a2 + 1)) fun v15 => go (v15, p14)) else (nm (wr (a2 + 1)) fun v13 => go (v13, S))) else none)
def lo_Plan_closeForm_65 (c0 : Nat) (a1 : Int) : Nat → Int × St → Option (St) := lp fun go p => lb_Plan_closeForm_65 c0 a1 go p.1 p.2
theorem tl_Plan_closeForm_65 {E : EV} {X : XT} {c0 : Nat} (hc0 : HC X 4 c0) {a1 : Int} (ha1 : inR a1) {K : RK → PS → Prop} {q : St} (hx : Go E M_Plan_closeForm 0 0 94 [(0, .ref c0), (1, V a1)] [] (WX X q) 0 0 K) : ∀ n a, lo_Plan_closeForm_65 c0 a1 n a = some q → inR a.1 → Go E M_Plan_closeForm 0 0 65 [(0, .ref c0), (1, V a1), (2, V a.1)] [] (WX X a.2) 0 0 K := by
  refine lp_ind (P := fun a : Int × St => inR a.1 → Go E M_Plan_closeForm 0 0 65 [(0, .ref c0), (1, V a1), (2, V a.1)] [] (WX X a.2) 0 0 K) (fun go ih a h => ?_)
  obtain ⟨a2, S⟩ := a
  intro ha2
  show Go E M_Plan_closeForm 0 0 65 [(0, .ref c0), (1, V a1), (2, V a2)] [] (WX X S) 0 0 K
  replace h : lb_Plan_closeForm_65 c0 a1 go a2 S = some q := h
  unfold lb_Plan_closeForm_65 at h
  refine g_iloadn (pc := 65) (i0 := 2) (j := 2) (dK D_Plan_closeForm_0 33 rfl) rfl rfl ?_
  refine g_aloadn (pc := 66) (i0 := 0) (j := 0) (dK D_Plan_closeForm_0 34 rfl) rfl rfl ?_
  refine vg_getI (pc := 67) (ci := 4) (f := 1) (dK D_Plan_closeForm_0 35 rfl) q_305 hc0 (ltK rfl) (ltK rfl) rfl ?_
  refine vg_icmp_gt (pc := 70) (t := 94) (dK D_Plan_closeForm_0 36 rfl) rfl ha2 (g_in _ _ _) (fun hc17 => ?_) (fun hc17 => ?_)
  · replace h := ifP h hc17
    obtain rfl := Option.some.inj h
    refine gL_weak (ls' := [(0, .ref c0), (1, V a1)]) (sbc 0 rfl (sbc 1 rfl sbn)) ?_
    exact hx 
  · replace h := ifN h hc17
    refine g_aloadn (pc := 73) (i0 := 0) (j := 0) (dK D_Plan_closeForm_0 37 rfl) rfl rfl ?_
    refine vg_getA (pc := 74) (ci := 4) (f := 3) (dK D_Plan_closeForm_0 38 rfl) q_313 hc0 (ltK rfl) (ltK rfl) rfl ?_
    refine g_iloadn (pc := 77) (i0 := 2) (j := 2) (dK D_Plan_closeForm_0 39 rfl) rfl rfl ?_
    refine gdE h (fun hi12 h => ?_)
    refine vg_iaload (pc := 78) (j := a2.toNat) (dK D_Plan_closeForm_0 40 rfl) (hw_4_3 hc0) rfl hi12 rfl ?_
    refine g_iloadn (pc := 79) (i0 := 1) (j := 1) (dK D_Plan_closeForm_0 41 rfl) rfl rfl ?_
    refine vg_icmp_ne (pc := 80) (t := 88) (dK D_Plan_closeForm_0 42 rfl) rfl (g_in _ _ _) ha1 (fun hc16 => ?_) (fun hc16 => ?_)
    · replace h := ifN h hc16
      refine nmE h (fun v13 e_v13 h => ?_)
      refine vg_iinc (pc := 88) (j := 2) (a := a2) (z := 1) (ls2 := [(2, V v13), (0, .ref c0), (1, V a1)]) (dK D_Plan_closeForm_0 46 rfl) rfl e_v13 (ltK rfl) rfl ?_
      refine g_goto (pc := 91) (tgt := 65) (dK D_Plan_closeForm_0 47 rfl) rfl ?_
      refine gL_weak (ls' := [(0, .ref c0), (1, V a1), (2, V v13)]) (sbc 1 rfl (sbc 2 rfl (sbc 0 rfl sbn))) ?_
      replace h := ih _ h
      exact h (Vn_in e_v13)
    · replace h := ifP h hc16
      refine g_aloadn (pc := 83) (i0 := 0) (j := 0) (dK D_Plan_closeForm_0 43 rfl) rfl rfl ?_
      refine g_iloadn (pc := 84) (i0 := 2) (j := 2) (dK D_Plan_closeForm_0 44 rfl) rfl rfl ?_
      refine bnE h (fun p14 e_p14 h => ?_)
      refine vg_cV (pc := 85) (As := [V a2]) (rest := []) (mc' := 0) (ms' := 0) (dK D_Plan_closeForm_0 45 rfl) K_Plan_198 (fitK rfl) (ltK rfl) hc0 rfl (leK rfl) (leK rfl) (leK rfl) (tf_Plan_replaceLateAds hc0 ha2 e_p14) (kcU ?_)
      refine nmE h (fun v15 e_v15 h => ?_)
      refine vg_iinc (pc := 88) (j := 2) (a := a2) (z := 1) (ls2 := [(2, V v15), (0, .ref c0), (1, V a1)]) (dK D_Plan_closeForm_0 46 rfl) rfl e_v15 (ltK rfl) rfl ?_
      refine g_goto (pc := 91) (tgt := 65) (dK D_Plan_closeForm_0 47 rfl) rfl ?_
      refine gL_weak (ls' := [(0, .ref c0), (1, V a1), (2, V v15)]) (sbc 1 rfl (sbc 2 rfl (sbc 0 rfl sbn))) ?_
      replace h := ih _ h
      exact h (Vn_in e_v15)
def fn_Plan_closeForm (c0 : Nat) (a1 : Int) (S : St) : Option (St) := bnO (lo_Plan_closeForm_2 c0 a1 FU (0, S)) fun p11 => bnO (lo_Plan_closeForm_65 c0 a1 FU (1, p11)) fun p18 => if 0 ≤ a1 ∧ a1 < 8 then (nm (u p18 (tgt (tgt (tgt c0 0) 3) 1) a1.toNat 1) fun S20 => bnO (fn_Plan_recount c0 S20) fun p21 => some p21) else none
theorem tf_Plan_closeForm {E : EV} {X : XT} {c0 : Nat} (hc0 : HC X 4 c0) {a1 : Int} (ha1 : inR a1) {S : St} {q : St} (h : fn_Plan_closeForm c0 a1 S = some q) : Ev E M_Plan_closeForm [.ref c0, V a1] (WX X S) 0 0 (KU X q) := by
  refine Ev.of pn_Plan rfl (leK rfl) ?_
  show Go E M_Plan_closeForm 0 0 0 [(0, .ref c0), (1, V a1)] [] (WX X S) 0 0 (KU X q)
  unfold fn_Plan_closeForm at h
  refine vg_iconst (pc := 0) (dK D_Plan_closeForm_0 0 rfl) ?_
  refine g_istoren (pc := 1) (i0 := 2) (ls2 := [(2, V 0), (0, .ref c0), (1, V a1)]) (dK D_Plan_closeForm_0 1 rfl) rfl (ltK rfl) rfl ?_
  refine bnE h (fun p11 e_p11 h => ?_)
  refine gL_weak (ls' := [(0, .ref c0), (1, V a1), (2, V 0)]) (sbc 1 rfl (sbc 2 rfl (sbc 0 rfl sbn))) ?_
  refine tl_Plan_closeForm_2 hc0 ha1 ?_ FU (0, S) e_p11 (inRk rfl)
  refine vg_iconst (pc := 63) (dK D_Plan_closeForm_0 31 rfl) ?_
  refine g_istoren (pc := 64) (i0 := 2) (ls2 := [(2, V 1), (0, .ref c0), (1, V a1)]) (dK D_Plan_closeForm_0 32 rfl) rfl (ltK rfl) rfl ?_
  refine bnE h (fun p18 e_p18 h => ?_)
  refine gL_weak (ls' := [(0, .ref c0), (1, V a1), (2, V 1)]) (sbc 1 rfl (sbc 2 rfl (sbc 0 rfl sbn))) ?_
  refine tl_Plan_closeForm_65 hc0 ha1 ?_ FU (1, p11) e_p18 (inRk rfl)
  refine g_aloadn (pc := 94) (i0 := 0) (j := 0) (dK D_Plan_closeForm_0 48 rfl) rfl rfl ?_
  refine vg_getO (pc := 95) (ci := 4) (f := 0) (dK D_Plan_closeForm_0 49 rfl) q_301 hc0 (ltK rfl) (ltK rfl) rfl ?_
  refine vg_getO (pc := 98) (ci := 8) (f := 3) (dK D_Plan_closeForm_1 0 rfl) q_246 (hw_4_0 hc0) (ltK rfl) (ltK rfl) rfl ?_
  refine vg_getA (pc := 101) (ci := 2) (f := 1) (dK D_Plan_closeForm_1 1 rfl) q_217 (hw_8_3 (hw_4_0 hc0)) (ltK rfl) (ltK rfl) rfl ?_
  refine g_iloadn (pc := 104) (i0 := 1) (j := 1) (dK D_Plan_closeForm_1 2 rfl) rfl rfl ?_
  refine vg_iconst (pc := 105) (dK D_Plan_closeForm_1 3 rfl) ?_
  refine gdE h (fun hi19 h => ?_)
  refine nmE h (fun S20 e_S20 h => ?_)
  refine vg_iastore (pc := 106) (z := 1) (dK D_Plan_closeForm_1 4 rfl) (hw_2_1 (hw_8_3 (hw_4_0 hc0))) rfl hi19 rfl e_S20 ?_
  refine g_aloadn (pc := 107) (i0 := 0) (j := 0) (dK D_Plan_closeForm_1 5 rfl) rfl rfl ?_
  refine bnE h (fun p21 e_p21 h => ?_)
  refine vg_cV (pc := 108) (As := []) (rest := []) (mc' := 0) (ms' := 0) (dK D_Plan_closeForm_1 6 rfl) K_Plan_98 (fitK rfl) (ltK rfl) hc0 rfl (leK rfl) (leK rfl) (leK rfl) (tf_Plan_recount hc0 e_p21) (kcU ?_)
  exact g_return (pc := 111) (dK D_Plan_closeForm_1 7 rfl) rfl (leK rfl) (leK rfl) (fun _ => rfl) (by obtain rfl := Option.some.inj h; exact ⟨rfl, rfl⟩)
def lb_Plan_closeDueForms_4 (c0 : Nat) (go : Int × Int × St → Option ((Int × St) ⊕ (Int × St))) (a1 : Int) (a2 : Int) (S : St) : Option ((Int × St) ⊕ (Int × St)) := if (g S c0 2) ≤ a2 then (some (.inr (a1, S))) else (bnO (fn_Plan_soonestForm c0 S) fun p1 => if p1 = (-1) then (some (.inl (a1, S))) else (if 0 ≤ p1 ∧ p1 < 8 then (if (g S (tgt (tgt (tgt c0 0) 3) 2) p1.toNat) ≤ (g S (tgt c0 0) 6) then (bnO (fn_Plan_closeForm c0 p1 S) fun p3 => nm (wr (a1 + 1)) fun v4 => nm (wr (a2 + 1)) fun v5 => go (v4, v5, p3)) else (some (.inl (a1, S)))) else none))
def lo_Plan_closeDueForms_4 (c0 : Nat) : Nat → Int × Int × St → Option ((Int × St) ⊕ (Int × St)) := lp fun go p => lb_Plan_closeDueForms_4 c0 go p.1 p.2.1 p.2.2
theorem tl_Plan_closeDueForms_4 {E : EV} {X : XT} {c0 : Nat} (hc0 : HC X 4 c0) {K : RK → PS → Prop} {q : (Int × St) ⊕ (Int × St)} (hx : ∀ p, q = .inr p → inR p.1 → Go E M_Plan_closeDueForms 0 0 60 [(1, V p.1)] [] (WX X p.2) 0 0 K) (hr : ∀ p, q = .inl p → inR p.1 → K (.inl (some (V p.1))) (WX X p.2)) : ∀ n a, lo_Plan_closeDueForms_4 c0 n a = some q → inR a.1 → inR a.2.1 → Go E M_Plan_closeDueForms 0 0 4 [(0, .ref c0), (1, V a.1), (2, V a.2.1)] [] (WX X a.2.2) 0 0 K := by
  refine lp_ind (P := fun a : Int × Int × St => inR a.1 → inR a.2.1 → Go E M_Plan_closeDueForms 0 0 4 [(0, .ref c0), (1, V a.1), (2, V a.2.1)] [] (WX X a.2.2) 0 0 K) (fun go ih a h => ?_)
  obtain ⟨a1, a2, S⟩ := a
  intro ha1 ha2
  show Go E M_Plan_closeDueForms 0 0 4 [(0, .ref c0), (1, V a1), (2, V a2)] [] (WX X S) 0 0 K
  replace h : lb_Plan_closeDueForms_4 c0 go a1 a2 S = some q := h
  unfold lb_Plan_closeDueForms_4 at h
  refine g_iloadn (pc := 4) (i0 := 2) (j := 2) (dK D_Plan_closeDueForms 4 rfl) rfl rfl ?_
  refine g_aloadn (pc := 5) (i0 := 0) (j := 0) (dK D_Plan_closeDueForms 5 rfl) rfl rfl ?_
  refine vg_getI (pc := 6) (ci := 4) (f := 2) (dK D_Plan_closeDueForms 6 rfl) q_309 hc0 (ltK rfl) (ltK rfl) rfl ?_
  refine vg_icmp_ge (pc := 9) (t := 60) (dK D_Plan_closeDueForms 7 rfl) rfl ha2 (g_in _ _ _) (fun hc8 => ?_) (fun hc8 => ?_)
  · replace h := ifP h hc8
    refine gL_weak (ls' := [(1, V a1)]) (sbc 1 rfl sbn) ?_
    exact hx _ (Option.some.inj h).symm ha1
  · replace h := ifN h hc8
    refine g_aloadn (pc := 12) (i0 := 0) (j := 0) (dK D_Plan_closeDueForms 8 rfl) rfl rfl ?_
    refine bnE h (fun p1 e_p1 h => ?_)
    refine vg_cV (pc := 13) (As := []) (rest := []) (mc' := 0) (ms' := 0) (dK D_Plan_closeDueForms 9 rfl) K_Plan_190 (fitK rfl) (ltK rfl) hc0 rfl (leK rfl) (leK rfl) (leK rfl) (tf_Plan_soonestForm hc0 e_p1) (kcI (fun h_p1 => ?_))
    refine g_istoren (pc := 16) (i0 := 3) (ls2 := [(3, V p1), (0, .ref c0), (1, V a1), (2, V a2)]) (dK D_Plan_closeDueForms 10 rfl) rfl (ltK rfl) rfl ?_
    refine g_iloadn (pc := 17) (i0 := 3) (j := 0) (dK D_Plan_closeDueForms 11 rfl) rfl rfl ?_
    refine vg_iconst (pc := 18) (dK D_Plan_closeDueForms 12 rfl) ?_
    refine vg_icmp_eq (pc := 19) (t := 44) (dK D_Plan_closeDueForms 13 rfl) rfl h_p1 (inRk rfl) (fun hc7 => ?_) (fun hc7 => ?_)
    · replace h := ifP h hc7
      refine g_iloadn (pc := 44) (i0 := 1) (j := 2) (dK D_Plan_closeDueForms 24 rfl) rfl rfl ?_
      exact vg_iretI (pc := 45) (r := a1) (dK D_Plan_closeDueForms 25 rfl) rfl (leK rfl) (leK rfl) (fun _ => rfl) (hr _ (Option.some.inj h).symm ha1)
    · replace h := ifN h hc7
      refine g_aloadn (pc := 22) (i0 := 0) (j := 1) (dK D_Plan_closeDueForms 14 rfl) rfl rfl ?_
      refine vg_getO (pc := 23) (ci := 4) (f := 0) (dK D_Plan_closeDueForms 15 rfl) q_301 hc0 (ltK rfl) (ltK rfl) rfl ?_
      refine vg_getO (pc := 26) (ci := 8) (f := 3) (dK D_Plan_closeDueForms 16 rfl) q_246 (hw_4_0 hc0) (ltK rfl) (ltK rfl) rfl ?_
      refine vg_getA (pc := 29) (ci := 2) (f := 2) (dK D_Plan_closeDueForms 17 rfl) q_221 (hw_8_3 (hw_4_0 hc0)) (ltK rfl) (ltK rfl) rfl ?_
      refine g_iloadn (pc := 32) (i0 := 3) (j := 0) (dK D_Plan_closeDueForms 18 rfl) rfl rfl ?_
      refine gdE h (fun hi2 h => ?_)
      refine vg_iaload (pc := 33) (j := p1.toNat) (dK D_Plan_closeDueForms 19 rfl) (hw_2_2 (hw_8_3 (hw_4_0 hc0))) rfl hi2 rfl ?_
      refine g_aloadn (pc := 34) (i0 := 0) (j := 1) (dK D_Plan_closeDueForms 20 rfl) rfl rfl ?_
      refine vg_getO (pc := 35) (ci := 4) (f := 0) (dK D_Plan_closeDueForms 21 rfl) q_301 hc0 (ltK rfl) (ltK rfl) rfl ?_
      refine vg_getI (pc := 38) (ci := 8) (f := 6) (dK D_Plan_closeDueForms 22 rfl) q_256 (hw_4_0 hc0) (ltK rfl) (ltK rfl) rfl ?_
      refine vg_icmp_le (pc := 41) (t := 46) (dK D_Plan_closeDueForms 23 rfl) rfl (g_in _ _ _) (g_in _ _ _) (fun hc6 => ?_) (fun hc6 => ?_)
      · replace h := ifP h hc6
        refine g_aloadn (pc := 46) (i0 := 0) (j := 1) (dK D_Plan_closeDueForms 26 rfl) rfl rfl ?_
        refine g_iloadn (pc := 47) (i0 := 3) (j := 0) (dK D_Plan_closeDueForms 27 rfl) rfl rfl ?_
        refine bnE h (fun p3 e_p3 h => ?_)
        refine vg_cV (pc := 48) (As := [V p1]) (rest := []) (mc' := 0) (ms' := 0) (dK D_Plan_closeDueForms 28 rfl) K_Plan_194 (fitK rfl) (ltK rfl) hc0 rfl (leK rfl) (leK rfl) (leK rfl) (tf_Plan_closeForm hc0 h_p1 e_p3) (kcU ?_)
        refine nmE h (fun v4 e_v4 h => ?_)
        refine vg_iinc (pc := 51) (j := 2) (a := a1) (z := 1) (ls2 := [(1, V v4), (3, V p1), (0, .ref c0), (2, V a2)]) (dK D_Plan_closeDueForms 29 rfl) rfl e_v4 (ltK rfl) rfl ?_
        refine nmE h (fun v5 e_v5 h => ?_)
        refine vg_iinc (pc := 54) (j := 3) (a := a2) (z := 1) (ls2 := [(2, V v5), (1, V v4), (3, V p1), (0, .ref c0)]) (dK D_Plan_closeDueForms 30 rfl) rfl e_v5 (ltK rfl) rfl ?_
        refine g_goto (pc := 57) (tgt := 4) (dK D_Plan_closeDueForms 31 rfl) rfl ?_
        refine gL_weak (ls' := [(0, .ref c0), (1, V v4), (2, V v5)]) (sbc 3 rfl (sbc 1 rfl (sbc 0 rfl sbn))) ?_
        replace h := ih _ h
        exact h (Vn_in e_v4) (Vn_in e_v5)
      · replace h := ifN h hc6
        refine g_iloadn (pc := 44) (i0 := 1) (j := 2) (dK D_Plan_closeDueForms 24 rfl) rfl rfl ?_
        exact vg_iretI (pc := 45) (r := a1) (dK D_Plan_closeDueForms 25 rfl) rfl (leK rfl) (leK rfl) (fun _ => rfl) (hr _ (Option.some.inj h).symm ha1)
def fn_Plan_closeDueForms (c0 : Nat) (S : St) : Option (Int × St) := bnS (lo_Plan_closeDueForms_4 c0 FU (0, 0, S)) (fun p10 => some (p10.1, p10.2)) fun p9 => some (p9.1, p9.2)
theorem tf_Plan_closeDueForms {E : EV} {X : XT} {c0 : Nat} (hc0 : HC X 4 c0) {S : St} {q : Int × St} (h : fn_Plan_closeDueForms c0 S = some q) : Ev E M_Plan_closeDueForms [.ref c0] (WX X S) 0 0 (KI X q.1 q.2) := by
  refine Ev.of pn_Plan rfl (leK rfl) ?_
  show Go E M_Plan_closeDueForms 0 0 0 [(0, .ref c0)] [] (WX X S) 0 0 (KI X q.1 q.2)
  unfold fn_Plan_closeDueForms at h
  refine vg_iconst (pc := 0) (dK D_Plan_closeDueForms 0 rfl) ?_
  refine g_istoren (pc := 1) (i0 := 1) (ls2 := [(1, V 0), (0, .ref c0)]) (dK D_Plan_closeDueForms 1 rfl) rfl (ltK rfl) rfl ?_
  refine vg_iconst (pc := 2) (dK D_Plan_closeDueForms 2 rfl) ?_
  refine g_istoren (pc := 3) (i0 := 2) (ls2 := [(2, V 0), (1, V 0), (0, .ref c0)]) (dK D_Plan_closeDueForms 3 rfl) rfl (ltK rfl) rfl ?_
  refine bnSE h (fun p10 e_p10 h => ?_) (fun p9 e_p9 h => ?_)
  · refine gL_weak (ls' := [(0, .ref c0), (1, V 0), (2, V 0)]) (sbc 2 rfl (sbc 1 rfl (sbc 0 rfl sbn))) ?_
    refine tl_Plan_closeDueForms_4 hc0 (fun _ e => slr e) (fun p e hr_p10 => ?_) FU (0, 0, S) e_p10 (inRk rfl) (inRk rfl)
    have e := Sum.inl.inj e
    subst e
    exact (by obtain rfl := Option.some.inj h; exact ⟨rfl, hr_p10, rfl⟩)
  · refine gL_weak (ls' := [(0, .ref c0), (1, V 0), (2, V 0)]) (sbc 2 rfl (sbc 1 rfl (sbc 0 rfl sbn))) ?_
    refine tl_Plan_closeDueForms_4 hc0 (fun p e hx1_p9 => ?_) (fun _ e => srl e) FU (0, 0, S) e_p9 (inRk rfl) (inRk rfl)
    have e := Sum.inr.inj e
    subst e
    refine g_iloadn (pc := 60) (i0 := 1) (j := 0) (dK D_Plan_closeDueForms 32 rfl) rfl rfl ?_
    exact vg_iretI (pc := 61) (r := p9.1) (dK D_Plan_closeDueForms 33 rfl) rfl (leK rfl) (leK rfl) (fun _ => rfl) (by obtain rfl := Option.some.inj h; exact ⟨rfl, hx1_p9, rfl⟩)
def fn_FP_setClosing (c0 : Nat) (a1 : Int) (a2 : Int) (S : St) : Option (Nat × Int × St) := bnO (fn_FP_needForm c0 a1 S) fun p1 => if p1 = 0 then (if a2 < 1 then (some (2, 0, S)) else (if a2 ≤ 9999 then (if 0 ≤ a1 ∧ a1 < 8 then (if (g S (tgt (tgt (tgt (tgt c0 3) 0) 3) 1) a1.toNat) = 1 then (some (0, (-4), S)) else (bnO (fn_History_keep (tgt c0 4) (tgt (tgt c0 3) 0) S) fun p3 => nm (u p3 (tgt (tgt (tgt (tgt c0 3) 0) 3) 2) a1.toNat a2) fun S4 => bnO (fn_Plan_closeDueForms (tgt c0 3) S4) fun p5 => bnO (fn_FP_orNone (g p3 (tgt (tgt (tgt (tgt c0 3) 0) 3) 2) a1.toNat) p5.2) fun p6 => some (0, p6, p5.2))) else none) else (some (2, 0, S)))) else (some (p1, 0, S))
theorem tf_FP_setClosing {E : EV} {X : XT} (hfl : X.2.2.2 = false) {c0 : Nat} (hc0 : HC X 10 c0) {a1 : Int} (ha1 : inR a1) {a2 : Int} (ha2 : inR a2) {S : St} {q : Nat × Int × St} (h : fn_FP_setClosing c0 a1 a2 S = some q) : Ev E M_FP_setClosing [.ref c0, V a1, V a2] (WX X S) 2 12 (KT X q.1 q.2.2 (KI X q.2.1 q.2.2)) := by
  refine Ev.of pn_FP rfl (leK rfl) ?_
  show Go E M_FP_setClosing 2 12 0 [(0, .ref c0), (1, V a1), (2, V a2)] [] (WX X S) 0 0 (KT X q.1 q.2.2 (KI X q.2.1 q.2.2))
  unfold fn_FP_setClosing at h
  refine g_aloadn (pc := 0) (i0 := 0) (j := 0) (dK D_FP_setClosing 0 rfl) rfl rfl ?_
  refine g_iloadn (pc := 1) (i0 := 1) (j := 1) (dK D_FP_setClosing 1 rfl) rfl rfl ?_
  refine bnE h (fun p1 e_p1 h => ?_)
  refine vg_cV (pc := 2) (As := [V a1]) (rest := []) (mc' := 1) (ms' := 6) (dK D_FP_setClosing 2 rfl) K_FP_223 (fitK rfl) (ltK rfl) hc0 rfl (leK rfl) (leK rfl) (leK rfl) (tf_FP_needForm hfl hc0 ha1 e_p1) (kcT hfl (fun he10 => kcU ?_) (fun he10 => ⟨rfl, ?_⟩))
  · replace h := ifP h he10
    refine g_iloadn (pc := 5) (i0 := 2) (j := 2) (dK D_FP_setClosing 3 rfl) rfl rfl ?_
    refine vg_iconst (pc := 6) (dK D_FP_setClosing 4 rfl) ?_
    refine vg_icmp_lt (pc := 7) (t := 17) (dK D_FP_setClosing 5 rfl) rfl ha2 (inRk rfl) (fun hc9 => ?_) (fun hc9 => ?_)
    · replace h := ifP h hc9
      exact vg_throwW hfl (pc := 17) TH_FP_148_270 (dK D_FP_setClosing 9 rfl) (dK D_FP_setClosing 10 rfl) (dK D_FP_setClosing 11 rfl) (dK D_FP_setClosing 12 rfl) (dK D_FP_setClosing 13 rfl) rfl (leK rfl) (leK rfl) (leK rfl) (leK rfl) (leK rfl) (by obtain rfl := Option.some.inj h; exact KT_thr (e := 2) (by decide))
    · replace h := ifN h hc9
      refine g_iloadn (pc := 10) (i0 := 2) (j := 2) (dK D_FP_setClosing 6 rfl) rfl rfl ?_
      refine vg_sipush (pc := 11) (dK D_FP_setClosing 7 rfl) rfl ?_
      refine vg_icmp_le (pc := 14) (t := 28) (dK D_FP_setClosing 8 rfl) rfl ha2 (inRk rfl) (fun hc8 => ?_) (fun hc8 => ?_)
      · replace h := ifP h hc8
        refine g_aloadn (pc := 28) (i0 := 0) (j := 0) (dK D_FP_setClosing 14 rfl) rfl rfl ?_
        refine vg_getO (pc := 29) (ci := 10) (f := 3) (dK D_FP_setClosing 15 rfl) q_436 hc0 (ltK rfl) (ltK rfl) rfl ?_
        refine vg_getO (pc := 32) (ci := 4) (f := 0) (dK D_FP_setClosing 16 rfl) q_303 (hw_10_3 hc0) (ltK rfl) (ltK rfl) rfl ?_
        refine vg_getO (pc := 35) (ci := 8) (f := 3) (dK D_FP_setClosing 17 rfl) q_248 (hw_4_0 (hw_10_3 hc0)) (ltK rfl) (ltK rfl) rfl ?_
        refine g_astoren (pc := 38) (i0 := 3) (ls2 := [(3, .ref (tgt (tgt (tgt c0 3) 0) 3)), (0, .ref c0), (1, V a1), (2, V a2)]) (dK D_FP_setClosing 18 rfl) rfl (ltK rfl) rfl ?_
        refine g_aloadn (pc := 39) (i0 := 3) (j := 0) (dK D_FP_setClosing 19 rfl) rfl rfl ?_
        refine vg_getA (pc := 40) (ci := 2) (f := 1) (dK D_FP_setClosing 20 rfl) q_218 (hw_8_3 (hw_4_0 (hw_10_3 hc0))) (ltK rfl) (ltK rfl) rfl ?_
        refine g_iloadn (pc := 43) (i0 := 1) (j := 2) (dK D_FP_setClosing 21 rfl) rfl rfl ?_
        refine gdE h (fun hi2 h => ?_)
        refine vg_iaload (pc := 44) (j := a1.toNat) (dK D_FP_setClosing 22 rfl) (hw_2_1 (hw_8_3 (hw_4_0 (hw_10_3 hc0)))) rfl hi2 rfl ?_
        refine vg_iconst (pc := 45) (dK D_FP_setClosing 23 rfl) ?_
        refine vg_icmp_ne (pc := 46) (t := 52) (dK D_FP_setClosing 24 rfl) rfl (g_in _ _ _) (inRk rfl) (fun hc7 => ?_) (fun hc7 => ?_)
        · replace h := ifN h hc7
          refine g_aloadn (pc := 52) (i0 := 0) (j := 1) (dK D_FP_setClosing 27 rfl) rfl rfl ?_
          refine vg_getO (pc := 53) (ci := 10) (f := 4) (dK D_FP_setClosing 28 rfl) q_437 hc0 (ltK rfl) (ltK rfl) rfl ?_
          refine g_aloadn (pc := 56) (i0 := 0) (j := 1) (dK D_FP_setClosing 29 rfl) rfl rfl ?_
          refine vg_getO (pc := 57) (ci := 10) (f := 3) (dK D_FP_setClosing 30 rfl) q_436 hc0 (ltK rfl) (ltK rfl) rfl ?_
          refine vg_getO (pc := 60) (ci := 4) (f := 0) (dK D_FP_setClosing 31 rfl) q_303 (hw_10_3 hc0) (ltK rfl) (ltK rfl) rfl ?_
          refine bnE h (fun p3 e_p3 h => ?_)
          refine vg_cV (pc := 63) (As := [.ref (tgt (tgt c0 3) 0)]) (rest := []) (mc' := 0) (ms' := 0) (dK D_FP_setClosing 32 rfl) K_FP_155 (fitK rfl) (ltK rfl) (hw_10_4 hc0) rfl (leK rfl) (leK rfl) (leK rfl) (tf_History_keep (hw_10_4 hc0) (hw_4_0 (hw_10_3 hc0)) e_p3) (kcU ?_)
          refine g_aloadn (pc := 66) (i0 := 3) (j := 0) (dK D_FP_setClosing 33 rfl) rfl rfl ?_
          refine vg_getA (pc := 67) (ci := 2) (f := 2) (dK D_FP_setClosing 34 rfl) q_223 (hw_8_3 (hw_4_0 (hw_10_3 hc0))) (ltK rfl) (ltK rfl) rfl ?_
          refine g_iloadn (pc := 70) (i0 := 1) (j := 2) (dK D_FP_setClosing 35 rfl) rfl rfl ?_
          refine vg_iaload (pc := 71) (j := a1.toNat) (dK D_FP_setClosing 36 rfl) (hw_2_2 (hw_8_3 (hw_4_0 (hw_10_3 hc0)))) rfl hi2 rfl ?_
          refine g_istore (pc := 72) (ls2 := [(4, V (g p3 (tgt (tgt (tgt (tgt c0 3) 0) 3) 2) a1.toNat)), (3, .ref (tgt (tgt (tgt c0 3) 0) 3)), (0, .ref c0), (1, V a1), (2, V a2)]) (dK D_FP_setClosing 37 rfl) (ltK rfl) rfl ?_
          refine g_aloadn (pc := 74) (i0 := 3) (j := 1) (dK D_FP_setClosing 38 rfl) rfl rfl ?_
          refine vg_getA (pc := 75) (ci := 2) (f := 2) (dK D_FP_setClosing 39 rfl) q_223 (hw_8_3 (hw_4_0 (hw_10_3 hc0))) (ltK rfl) (ltK rfl) rfl ?_
          refine g_iloadn (pc := 78) (i0 := 1) (j := 3) (dK D_FP_setClosing 40 rfl) rfl rfl ?_
          refine g_iloadn (pc := 79) (i0 := 2) (j := 4) (dK D_FP_setClosing 41 rfl) rfl rfl ?_
          refine nmE h (fun S4 e_S4 h => ?_)
          refine vg_iastore (pc := 80) (z := a2) (dK D_FP_setClosing 42 rfl) (hw_2_2 (hw_8_3 (hw_4_0 (hw_10_3 hc0)))) rfl hi2 rfl e_S4 ?_
          refine g_aloadn (pc := 81) (i0 := 0) (j := 2) (dK D_FP_setClosing 43 rfl) rfl rfl ?_
          refine vg_getO (pc := 82) (ci := 10) (f := 3) (dK D_FP_setClosing 44 rfl) q_436 hc0 (ltK rfl) (ltK rfl) rfl ?_
          refine bnE h (fun p5 e_p5 h => ?_)
          refine vg_cV (pc := 85) (As := []) (rest := []) (mc' := 0) (ms' := 0) (dK D_FP_setClosing 45 rfl) K_FP_272 (fitK rfl) (ltK rfl) (hw_10_3 hc0) rfl (leK rfl) (leK rfl) (leK rfl) (tf_Plan_closeDueForms (hw_10_3 hc0) e_p5) (kcI (fun h_p5 => ?_))
          refine g_pop (pc := 88) (dK D_FP_setClosing 46 rfl) rfl ?_
          refine g_iload (pc := 89) (j := 0) (dK D_FP_setClosing 47 rfl) rfl ?_
          refine bnE h (fun p6 e_p6 h => ?_)
          refine vg_cS (pc := 91) (As := [V (g p3 (tgt (tgt (tgt (tgt c0 3) 0) 3) 2) a1.toNat)]) (rest := []) (mc' := 0) (ms' := 0) (dK D_FP_setClosing 48 rfl) K_FP_185 (fitK rfl) rfl (leK rfl) (leK rfl) (leK rfl) (tf_FP_orNone (g_in _ _ _) e_p6) (kcI (fun h_p6 => ?_))
          exact vg_iretI (pc := 94) (r := p6) (dK D_FP_setClosing 49 rfl) rfl (leK rfl) (leK rfl) (xf hfl) (by obtain rfl := Option.some.inj h; exact KT_ok ⟨rfl, h_p6, rfl⟩)
        · replace h := ifP h hc7
          refine vg_bipush (pc := 49) (dK D_FP_setClosing 25 rfl) rfl ?_
          exact vg_iretI (pc := 51) (r := (-4)) (dK D_FP_setClosing 26 rfl) rfl (leK rfl) (leK rfl) (xf hfl) (by obtain rfl := Option.some.inj h; exact KT_ok ⟨rfl, (inRk rfl), rfl⟩)
      · replace h := ifN h hc8
        exact vg_throwW hfl (pc := 17) TH_FP_148_270 (dK D_FP_setClosing 9 rfl) (dK D_FP_setClosing 10 rfl) (dK D_FP_setClosing 11 rfl) (dK D_FP_setClosing 12 rfl) (dK D_FP_setClosing 13 rfl) rfl (leK rfl) (leK rfl) (leK rfl) (leK rfl) (leK rfl) (by obtain rfl := Option.some.inj h; exact KT_thr (e := 2) (by decide))
  · replace h := ifN h he10
    obtain rfl := Option.some.inj h
    exact KT_thr he10
def lb_FP_pass_62 (c0 : Nat) (a1 : Int) (go : Int × Int × St → Option (Int × St)) (a2 : Int) (a3 : Int) (S : St) : Option (Int × St) := if a1 ≤ a3 then (some (a2, S)) else (nm (u S (tgt (tgt c0 3) 0) 6 ((g S (tgt (tgt c0 3) 0) 6) + 1)) fun S3 => bnO (fn_Plan_closeDueForms (tgt c0 3) S3) fun p4 => nm (wr (a2 + p4.1)) fun v5 => nm (wr (a3 + 1)) fun v6 => go (v5, v6, p4.2))
def lo_FP_pass_62 (c0 : Nat) (a1 : Int) : Nat → Int × Int × St → Option (Int × St) := lp fun go p => lb_FP_pass_62 c0 a1 go p.1 p.2.1 p.2.2
theorem tl_FP_pass_62 {E : EV} {X : XT} (hfl : X.2.2.2 = false) {c0 : Nat} (hc0 : HC X 10 c0) {a1 : Int} (ha1 : inR a1) {K : RK → PS → Prop} {q : Int × St} (hx : inR q.1 → Go E M_FP_pass 1 6 99 [(2, V q.1)] [] (WX X q.2) 0 0 K) : ∀ n a, lo_FP_pass_62 c0 a1 n a = some q → inR a.1 → inR a.2.1 → Go E M_FP_pass 1 6 62 [(0, .ref c0), (1, V a1), (2, V a.1), (3, V a.2.1)] [] (WX X a.2.2) 0 0 K := by
  refine lp_ind (P := fun a : Int × Int × St => inR a.1 → inR a.2.1 → Go E M_FP_pass 1 6 62 [(0, .ref c0), (1, V a1), (2, V a.1), (3, V a.2.1)] [] (WX X a.2.2) 0 0 K) (fun go ih a h => ?_)
  obtain ⟨a2, a3, S⟩ := a
  intro ha2 ha3
  show Go E M_FP_pass 1 6 62 [(0, .ref c0), (1, V a1), (2, V a2), (3, V a3)] [] (WX X S) 0 0 K
  replace h : lb_FP_pass_62 c0 a1 go a2 a3 S = some q := h
  unfold lb_FP_pass_62 at h
  refine g_iloadn (pc := 62) (i0 := 3) (j := 3) (dK D_FP_pass_0 31 rfl) rfl rfl ?_
  refine g_iloadn (pc := 63) (i0 := 1) (j := 1) (dK D_FP_pass_0 32 rfl) rfl rfl ?_
  refine vg_icmp_ge (pc := 64) (t := 99) (dK D_FP_pass_0 33 rfl) rfl ha3 ha1 (fun hc7 => ?_) (fun hc7 => ?_)
  · replace h := ifP h hc7
    obtain rfl := Option.some.inj h
    refine gL_weak (ls' := [(2, V a2)]) (sbc 2 rfl sbn) ?_
    exact hx ha2
  · replace h := ifN h hc7
    refine g_aloadn (pc := 67) (i0 := 0) (j := 0) (dK D_FP_pass_0 34 rfl) rfl rfl ?_
    refine vg_getO (pc := 68) (ci := 10) (f := 3) (dK D_FP_pass_0 35 rfl) q_436 hc0 (ltK rfl) (ltK rfl) rfl ?_
    refine vg_getO (pc := 71) (ci := 4) (f := 0) (dK D_FP_pass_0 36 rfl) q_303 (hw_10_3 hc0) (ltK rfl) (ltK rfl) rfl ?_
    refine g_dup (pc := 74) (dK D_FP_pass_0 37 rfl) rfl ?_
    refine vg_getI (pc := 75) (ci := 8) (f := 6) (dK D_FP_pass_0 38 rfl) q_258 (hw_4_0 (hw_10_3 hc0)) (ltK rfl) (ltK rfl) rfl ?_
    refine vg_iconst (pc := 78) (dK D_FP_pass_0 39 rfl) ?_
    refine vg_iadd (pc := 79) (dK D_FP_pass_0 40 rfl) ?_
    refine nmE h (fun S3 e_S3 h => ?_)
    refine vg_putI (pc := 80) (ci := 8) (f := 6) (z := ((g S (tgt (tgt c0 3) 0) 6) + 1)) (dK D_FP_pass_0 41 rfl) q_258 (hw_4_0 (hw_10_3 hc0)) (ltK rfl) (ltK rfl) rfl rfl e_S3 ?_
    refine g_iloadn (pc := 83) (i0 := 2) (j := 2) (dK D_FP_pass_0 42 rfl) rfl rfl ?_
    refine g_aloadn (pc := 84) (i0 := 0) (j := 0) (dK D_FP_pass_0 43 rfl) rfl rfl ?_
    refine vg_getO (pc := 85) (ci := 10) (f := 3) (dK D_FP_pass_0 44 rfl) q_436 hc0 (ltK rfl) (ltK rfl) rfl ?_
    refine bnE h (fun p4 e_p4 h => ?_)
    refine vg_cV (pc := 88) (As := []) (rest := [V a2]) (mc' := 0) (ms' := 0) (dK D_FP_pass_0 45 rfl) K_FP_272 (fitK rfl) (ltK rfl) (hw_10_3 hc0) rfl (leK rfl) (leK rfl) (leK rfl) (tf_Plan_closeDueForms (hw_10_3 hc0) e_p4) (kcI (fun h_p4 => ?_))
    refine vg_iadd (pc := 91) (dK D_FP_pass_0 46 rfl) ?_
    refine nmE h (fun v5 e_v5 h => ?_)
    refine gtop e_v5 ?_
    refine g_istoren (pc := 92) (i0 := 2) (ls2 := [(2, V v5), (0, .ref c0), (1, V a1), (3, V a3)]) (dK D_FP_pass_0 47 rfl) rfl (ltK rfl) rfl ?_
    refine nmE h (fun v6 e_v6 h => ?_)
    refine vg_iinc (pc := 93) (j := 3) (a := a3) (z := 1) (ls2 := [(3, V v6), (2, V v5), (0, .ref c0), (1, V a1)]) (dK D_FP_pass_0 48 rfl) rfl e_v6 (ltK rfl) rfl ?_
    refine g_goto (pc := 96) (tgt := 62) (dK D_FP_pass_0 49 rfl) rfl ?_
    refine gL_weak (ls' := [(0, .ref c0), (1, V a1), (2, V v5), (3, V v6)]) (sbc 2 rfl (sbc 3 rfl (sbc 1 rfl (sbc 0 rfl sbn)))) ?_
    replace h := ih _ h
    exact h (Vn_in e_v5) (Vn_in e_v6)
def fn_FP_pass (c0 : Nat) (a1 : Int) (S : St) : Option (Nat × Int × St) := if a1 < 1 then (some (2, 0, S)) else (if a1 ≤ 500 then (nm (wr ((g S (tgt (tgt c0 3) 0) 6) + a1)) fun v1 => if v1 ≤ 9999 then (bnO (fn_History_keep (tgt c0 4) (tgt (tgt c0 3) 0) S) fun p2 => bnO (lo_FP_pass_62 c0 a1 FU (0, 0, p2)) fun p8 => some (0, p8.1, p8.2)) else (some (0, (-2), S))) else (some (2, 0, S)))
theorem tf_FP_pass {E : EV} {X : XT} (hfl : X.2.2.2 = false) {c0 : Nat} (hc0 : HC X 10 c0) {a1 : Int} (ha1 : inR a1) {S : St} {q : Nat × Int × St} (h : fn_FP_pass c0 a1 S = some q) : Ev E M_FP_pass [.ref c0, V a1] (WX X S) 1 6 (KT X q.1 q.2.2 (KI X q.2.1 q.2.2)) := by
  refine Ev.of pn_FP rfl (leK rfl) ?_
  show Go E M_FP_pass 1 6 0 [(0, .ref c0), (1, V a1)] [] (WX X S) 0 0 (KT X q.1 q.2.2 (KI X q.2.1 q.2.2))
  unfold fn_FP_pass at h
  refine g_iloadn (pc := 0) (i0 := 1) (j := 1) (dK D_FP_pass_0 0 rfl) rfl rfl ?_
  refine vg_iconst (pc := 1) (dK D_FP_pass_0 1 rfl) ?_
  refine vg_icmp_lt (pc := 2) (t := 12) (dK D_FP_pass_0 2 rfl) rfl ha1 (inRk rfl) (fun hc11 => ?_) (fun hc11 => ?_)
  · replace h := ifP h hc11
    exact vg_throwW hfl (pc := 12) TH_FP_148_275 (dK D_FP_pass_0 6 rfl) (dK D_FP_pass_0 7 rfl) (dK D_FP_pass_0 8 rfl) (dK D_FP_pass_0 9 rfl) (dK D_FP_pass_0 10 rfl) rfl (leK rfl) (leK rfl) (leK rfl) (leK rfl) (leK rfl) (by obtain rfl := Option.some.inj h; exact KT_thr (e := 2) (by decide))
  · replace h := ifN h hc11
    refine g_iloadn (pc := 5) (i0 := 1) (j := 1) (dK D_FP_pass_0 3 rfl) rfl rfl ?_
    refine vg_sipush (pc := 6) (dK D_FP_pass_0 4 rfl) rfl ?_
    refine vg_icmp_le (pc := 9) (t := 23) (dK D_FP_pass_0 5 rfl) rfl ha1 (inRk rfl) (fun hc10 => ?_) (fun hc10 => ?_)
    · replace h := ifP h hc10
      refine g_aloadn (pc := 23) (i0 := 0) (j := 0) (dK D_FP_pass_0 11 rfl) rfl rfl ?_
      refine vg_getO (pc := 24) (ci := 10) (f := 3) (dK D_FP_pass_0 12 rfl) q_436 hc0 (ltK rfl) (ltK rfl) rfl ?_
      refine vg_getO (pc := 27) (ci := 4) (f := 0) (dK D_FP_pass_0 13 rfl) q_303 (hw_10_3 hc0) (ltK rfl) (ltK rfl) rfl ?_
      refine vg_getI (pc := 30) (ci := 8) (f := 6) (dK D_FP_pass_0 14 rfl) q_258 (hw_4_0 (hw_10_3 hc0)) (ltK rfl) (ltK rfl) rfl ?_
      refine g_iloadn (pc := 33) (i0 := 1) (j := 1) (dK D_FP_pass_0 15 rfl) rfl rfl ?_
      refine vg_iadd (pc := 34) (dK D_FP_pass_0 16 rfl) ?_
      refine vg_sipush (pc := 35) (dK D_FP_pass_0 17 rfl) rfl ?_
      refine nmE h (fun v1 e_v1 h => ?_)
      refine gsk (st' := [V 9999, V v1]) (by rw [Vn e_v1]) ?_
      refine vg_icmp_le (pc := 38) (t := 44) (dK D_FP_pass_0 18 rfl) rfl (Vn_in e_v1) (inRk rfl) (fun hc9 => ?_) (fun hc9 => ?_)
      · replace h := ifP h hc9
        refine g_aloadn (pc := 44) (i0 := 0) (j := 0) (dK D_FP_pass_0 21 rfl) rfl rfl ?_
        refine vg_getO (pc := 45) (ci := 10) (f := 4) (dK D_FP_pass_0 22 rfl) q_437 hc0 (ltK rfl) (ltK rfl) rfl ?_
        refine g_aloadn (pc := 48) (i0 := 0) (j := 0) (dK D_FP_pass_0 23 rfl) rfl rfl ?_
        refine vg_getO (pc := 49) (ci := 10) (f := 3) (dK D_FP_pass_0 24 rfl) q_436 hc0 (ltK rfl) (ltK rfl) rfl ?_
        refine vg_getO (pc := 52) (ci := 4) (f := 0) (dK D_FP_pass_0 25 rfl) q_303 (hw_10_3 hc0) (ltK rfl) (ltK rfl) rfl ?_
        refine bnE h (fun p2 e_p2 h => ?_)
        refine vg_cV (pc := 55) (As := [.ref (tgt (tgt c0 3) 0)]) (rest := []) (mc' := 0) (ms' := 0) (dK D_FP_pass_0 26 rfl) K_FP_155 (fitK rfl) (ltK rfl) (hw_10_4 hc0) rfl (leK rfl) (leK rfl) (leK rfl) (tf_History_keep (hw_10_4 hc0) (hw_4_0 (hw_10_3 hc0)) e_p2) (kcU ?_)
        refine vg_iconst (pc := 58) (dK D_FP_pass_0 27 rfl) ?_
        refine g_istoren (pc := 59) (i0 := 2) (ls2 := [(2, V 0), (0, .ref c0), (1, V a1)]) (dK D_FP_pass_0 28 rfl) rfl (ltK rfl) rfl ?_
        refine vg_iconst (pc := 60) (dK D_FP_pass_0 29 rfl) ?_
        refine g_istoren (pc := 61) (i0 := 3) (ls2 := [(3, V 0), (2, V 0), (0, .ref c0), (1, V a1)]) (dK D_FP_pass_0 30 rfl) rfl (ltK rfl) rfl ?_
        refine bnE h (fun p8 e_p8 h => ?_)
        refine gL_weak (ls' := [(0, .ref c0), (1, V a1), (2, V 0), (3, V 0)]) (sbc 2 rfl (sbc 3 rfl (sbc 1 rfl (sbc 0 rfl sbn)))) ?_
        refine tl_FP_pass_62 hfl hc0 ha1 (fun hx2_p8 => ?_) FU (0, 0, p2) e_p8 (inRk rfl) (inRk rfl)
        refine g_iloadn (pc := 99) (i0 := 2) (j := 0) (dK D_FP_pass_1 0 rfl) rfl rfl ?_
        exact vg_iretI (pc := 100) (r := p8.1) (dK D_FP_pass_1 1 rfl) rfl (leK rfl) (leK rfl) (xf hfl) (by obtain rfl := Option.some.inj h; exact KT_ok ⟨rfl, hx2_p8, rfl⟩)
      · replace h := ifN h hc9
        refine vg_bipush (pc := 41) (dK D_FP_pass_0 19 rfl) rfl ?_
        exact vg_iretI (pc := 43) (r := (-2)) (dK D_FP_pass_0 20 rfl) rfl (leK rfl) (leK rfl) (xf hfl) (by obtain rfl := Option.some.inj h; exact KT_ok ⟨rfl, (inRk rfl), rfl⟩)
    · replace h := ifN h hc10
      exact vg_throwW hfl (pc := 12) TH_FP_148_275 (dK D_FP_pass_0 6 rfl) (dK D_FP_pass_0 7 rfl) (dK D_FP_pass_0 8 rfl) (dK D_FP_pass_0 9 rfl) (dK D_FP_pass_0 10 rfl) rfl (leK rfl) (leK rfl) (leK rfl) (leK rfl) (leK rfl) (by obtain rfl := Option.some.inj h; exact KT_thr (e := 2) (by decide))
def fn_FP_print (c0 : Nat) (a1 : Int) (S : St) : Option (Nat × Int × St) := bnO (fn_FP_needForm c0 a1 S) fun p1 => if p1 = 0 then (if 0 ≤ a1 ∧ a1 < 8 then (if (g S (tgt (tgt (tgt (tgt c0 3) 0) 3) 1) a1.toNat) = 1 then (some (0, (-4), S)) else (bnO (fn_Plan_lateOnForm (tgt c0 3) a1 S) fun p3 => if p3 ≤ 0 then (bnO (fn_History_keep (tgt c0 4) (tgt (tgt c0 3) 0) S) fun p4 => nm (u p4 (tgt (tgt (tgt (tgt c0 3) 0) 3) 1) a1.toNat 1) fun S5 => bnO (fn_Plan_leftOnForm (tgt c0 3) a1 S5) fun p6 => some (0, p6, S5)) else (some (0, (-4), S)))) else none) else (some (p1, 0, S))
theorem tf_FP_print {E : EV} {X : XT} (hfl : X.2.2.2 = false) {c0 : Nat} (hc0 : HC X 10 c0) {a1 : Int} (ha1 : inR a1) {S : St} {q : Nat × Int × St} (h : fn_FP_print c0 a1 S = some q) : Ev E M_FP_print [.ref c0, V a1] (WX X S) 1 6 (KT X q.1 q.2.2 (KI X q.2.1 q.2.2)) := by
  refine Ev.of pn_FP rfl (leK rfl) ?_
  show Go E M_FP_print 1 6 0 [(0, .ref c0), (1, V a1)] [] (WX X S) 0 0 (KT X q.1 q.2.2 (KI X q.2.1 q.2.2))
  unfold fn_FP_print at h
  refine g_aloadn (pc := 0) (i0 := 0) (j := 0) (dK D_FP_print 0 rfl) rfl rfl ?_
  refine g_iloadn (pc := 1) (i0 := 1) (j := 1) (dK D_FP_print 1 rfl) rfl rfl ?_
  refine bnE h (fun p1 e_p1 h => ?_)
  refine vg_cV (pc := 2) (As := [V a1]) (rest := []) (mc' := 1) (ms' := 6) (dK D_FP_print 2 rfl) K_FP_223 (fitK rfl) (ltK rfl) hc0 rfl (leK rfl) (leK rfl) (leK rfl) (tf_FP_needForm hfl hc0 ha1 e_p1) (kcT hfl (fun he9 => kcU ?_) (fun he9 => ⟨rfl, ?_⟩))
  · replace h := ifP h he9
    refine g_aloadn (pc := 5) (i0 := 0) (j := 0) (dK D_FP_print 3 rfl) rfl rfl ?_
    refine vg_getO (pc := 6) (ci := 10) (f := 3) (dK D_FP_print 4 rfl) q_436 hc0 (ltK rfl) (ltK rfl) rfl ?_
    refine vg_getO (pc := 9) (ci := 4) (f := 0) (dK D_FP_print 5 rfl) q_303 (hw_10_3 hc0) (ltK rfl) (ltK rfl) rfl ?_
    refine vg_getO (pc := 12) (ci := 8) (f := 3) (dK D_FP_print 6 rfl) q_248 (hw_4_0 (hw_10_3 hc0)) (ltK rfl) (ltK rfl) rfl ?_
    refine vg_getA (pc := 15) (ci := 2) (f := 1) (dK D_FP_print 7 rfl) q_218 (hw_8_3 (hw_4_0 (hw_10_3 hc0))) (ltK rfl) (ltK rfl) rfl ?_
    refine g_iloadn (pc := 18) (i0 := 1) (j := 1) (dK D_FP_print 8 rfl) rfl rfl ?_
    refine gdE h (fun hi2 h => ?_)
    refine vg_iaload (pc := 19) (j := a1.toNat) (dK D_FP_print 9 rfl) (hw_2_1 (hw_8_3 (hw_4_0 (hw_10_3 hc0)))) rfl hi2 rfl ?_
    refine vg_iconst (pc := 20) (dK D_FP_print 10 rfl) ?_
    refine vg_icmp_eq (pc := 21) (t := 35) (dK D_FP_print 11 rfl) rfl (g_in _ _ _) (inRk rfl) (fun hc8 => ?_) (fun hc8 => ?_)
    · replace h := ifP h hc8
      refine vg_bipush (pc := 35) (dK D_FP_print 17 rfl) rfl ?_
      exact vg_iretI (pc := 37) (r := (-4)) (dK D_FP_print 18 rfl) rfl (leK rfl) (leK rfl) (xf hfl) (by obtain rfl := Option.some.inj h; exact KT_ok ⟨rfl, (inRk rfl), rfl⟩)
    · replace h := ifN h hc8
      refine g_aloadn (pc := 24) (i0 := 0) (j := 0) (dK D_FP_print 12 rfl) rfl rfl ?_
      refine vg_getO (pc := 25) (ci := 10) (f := 3) (dK D_FP_print 13 rfl) q_436 hc0 (ltK rfl) (ltK rfl) rfl ?_
      refine g_iloadn (pc := 28) (i0 := 1) (j := 1) (dK D_FP_print 14 rfl) rfl rfl ?_
      refine bnE h (fun p3 e_p3 h => ?_)
      refine vg_cV (pc := 29) (As := [V a1]) (rest := []) (mc' := 0) (ms' := 0) (dK D_FP_print 15 rfl) K_FP_238 (fitK rfl) (ltK rfl) (hw_10_3 hc0) rfl (leK rfl) (leK rfl) (leK rfl) (tf_Plan_lateOnForm (hw_10_3 hc0) ha1 e_p3) (kcI (fun h_p3 => ?_))
      refine vg_if_le (pc := 32) (t := 38) (dK D_FP_print 16 rfl) rfl h_p3 (fun hc7 => ?_) (fun hc7 => ?_)
      · replace h := ifP h hc7
        refine g_aloadn (pc := 38) (i0 := 0) (j := 0) (dK D_FP_print 19 rfl) rfl rfl ?_
        refine vg_getO (pc := 39) (ci := 10) (f := 4) (dK D_FP_print 20 rfl) q_437 hc0 (ltK rfl) (ltK rfl) rfl ?_
        refine g_aloadn (pc := 42) (i0 := 0) (j := 0) (dK D_FP_print 21 rfl) rfl rfl ?_
        refine vg_getO (pc := 43) (ci := 10) (f := 3) (dK D_FP_print 22 rfl) q_436 hc0 (ltK rfl) (ltK rfl) rfl ?_
        refine vg_getO (pc := 46) (ci := 4) (f := 0) (dK D_FP_print 23 rfl) q_303 (hw_10_3 hc0) (ltK rfl) (ltK rfl) rfl ?_
        refine bnE h (fun p4 e_p4 h => ?_)
        refine vg_cV (pc := 49) (As := [.ref (tgt (tgt c0 3) 0)]) (rest := []) (mc' := 0) (ms' := 0) (dK D_FP_print 24 rfl) K_FP_155 (fitK rfl) (ltK rfl) (hw_10_4 hc0) rfl (leK rfl) (leK rfl) (leK rfl) (tf_History_keep (hw_10_4 hc0) (hw_4_0 (hw_10_3 hc0)) e_p4) (kcU ?_)
        refine g_aloadn (pc := 52) (i0 := 0) (j := 0) (dK D_FP_print 25 rfl) rfl rfl ?_
        refine vg_getO (pc := 53) (ci := 10) (f := 3) (dK D_FP_print 26 rfl) q_436 hc0 (ltK rfl) (ltK rfl) rfl ?_
        refine vg_getO (pc := 56) (ci := 4) (f := 0) (dK D_FP_print 27 rfl) q_303 (hw_10_3 hc0) (ltK rfl) (ltK rfl) rfl ?_
        refine vg_getO (pc := 59) (ci := 8) (f := 3) (dK D_FP_print 28 rfl) q_248 (hw_4_0 (hw_10_3 hc0)) (ltK rfl) (ltK rfl) rfl ?_
        refine vg_getA (pc := 62) (ci := 2) (f := 1) (dK D_FP_print 29 rfl) q_218 (hw_8_3 (hw_4_0 (hw_10_3 hc0))) (ltK rfl) (ltK rfl) rfl ?_
        refine g_iloadn (pc := 65) (i0 := 1) (j := 1) (dK D_FP_print 30 rfl) rfl rfl ?_
        refine vg_iconst (pc := 66) (dK D_FP_print 31 rfl) ?_
        refine nmE h (fun S5 e_S5 h => ?_)
        refine vg_iastore (pc := 67) (z := 1) (dK D_FP_print 32 rfl) (hw_2_1 (hw_8_3 (hw_4_0 (hw_10_3 hc0)))) rfl hi2 rfl e_S5 ?_
        refine g_aloadn (pc := 68) (i0 := 0) (j := 0) (dK D_FP_print 33 rfl) rfl rfl ?_
        refine vg_getO (pc := 69) (ci := 10) (f := 3) (dK D_FP_print 34 rfl) q_436 hc0 (ltK rfl) (ltK rfl) rfl ?_
        refine g_iloadn (pc := 72) (i0 := 1) (j := 1) (dK D_FP_print 35 rfl) rfl rfl ?_
        refine bnE h (fun p6 e_p6 h => ?_)
        refine vg_cV (pc := 73) (As := [V a1]) (rest := []) (mc' := 0) (ms' := 0) (dK D_FP_print 36 rfl) K_FP_232 (fitK rfl) (ltK rfl) (hw_10_3 hc0) rfl (leK rfl) (leK rfl) (leK rfl) (tf_Plan_leftOnForm (hw_10_3 hc0) ha1 e_p6) (kcI (fun h_p6 => ?_))
        exact vg_iretI (pc := 76) (r := p6) (dK D_FP_print 37 rfl) rfl (leK rfl) (leK rfl) (xf hfl) (by obtain rfl := Option.some.inj h; exact KT_ok ⟨rfl, h_p6, rfl⟩)
      · replace h := ifN h hc7
        refine vg_bipush (pc := 35) (dK D_FP_print 17 rfl) rfl ?_
        exact vg_iretI (pc := 37) (r := (-4)) (dK D_FP_print 18 rfl) rfl (leK rfl) (leK rfl) (xf hfl) (by obtain rfl := Option.some.inj h; exact KT_ok ⟨rfl, (inRk rfl), rfl⟩)
  · replace h := ifN h he9
    obtain rfl := Option.some.inj h
    exact KT_thr he9
def fn_Searches_comesBefore (c0 : Nat) (a1 : Int) (a2 : Int) (S : St) : Option (Bool) := if 0 ≤ a1 ∧ a1 < 40 then (if 0 ≤ a2 ∧ a2 < 40 then (if (g S (tgt (tgt (tgt c0 1) 0) 4) a1.toNat) = (g S (tgt (tgt (tgt c0 1) 0) 4) a2.toNat) then (if (g S (tgt (tgt (tgt c0 1) 0) 0) a1.toNat) ≤ (g S (tgt (tgt (tgt c0 1) 0) 0) a2.toNat) then (some false) else (some true)) else (if (g S (tgt (tgt (tgt c0 1) 0) 4) a1.toNat) ≤ (g S (tgt (tgt (tgt c0 1) 0) 4) a2.toNat) then (some false) else (some true))) else none) else none
theorem tf_Searches_comesBefore {E : EV} {X : XT} {c0 : Nat} (hc0 : HC X 6 c0) {a1 : Int} (ha1 : inR a1) {a2 : Int} (ha2 : inR a2) {S : St} {q : Bool} (h : fn_Searches_comesBefore c0 a1 a2 S = some q) : Ev E M_Searches_comesBefore [.ref c0, V a1, V a2] (WX X S) 0 0 (KB X q S) := by
  refine Ev.of pn_Searches rfl (leK rfl) ?_
  show Go E M_Searches_comesBefore 0 0 0 [(0, .ref c0), (1, V a1), (2, V a2)] [] (WX X S) 0 0 (KB X q S)
  unfold fn_Searches_comesBefore at h
  refine g_aloadn (pc := 0) (i0 := 0) (j := 0) (dK D_Searches_comesBefore 0 rfl) rfl rfl ?_
  refine vg_getO (pc := 1) (ci := 6) (f := 1) (dK D_Searches_comesBefore 1 rfl) q_381 hc0 (ltK rfl) (ltK rfl) rfl ?_
  refine vg_getO (pc := 4) (ci := 8) (f := 0) (dK D_Searches_comesBefore 2 rfl) q_232 (hw_6_1 hc0) (ltK rfl) (ltK rfl) rfl ?_
  refine g_astoren (pc := 7) (i0 := 3) (ls2 := [(3, .ref (tgt (tgt c0 1) 0)), (0, .ref c0), (1, V a1), (2, V a2)]) (dK D_Searches_comesBefore 3 rfl) rfl (ltK rfl) rfl ?_
  refine g_aloadn (pc := 8) (i0 := 3) (j := 0) (dK D_Searches_comesBefore 4 rfl) rfl rfl ?_
  refine vg_getA (pc := 9) (ci := 0) (f := 4) (dK D_Searches_comesBefore 5 rfl) q_104 (hw_8_0 (hw_6_1 hc0)) (ltK rfl) (ltK rfl) rfl ?_
  refine g_iloadn (pc := 12) (i0 := 1) (j := 2) (dK D_Searches_comesBefore 6 rfl) rfl rfl ?_
  refine gdE h (fun hi1 h => ?_)
  refine vg_iaload (pc := 13) (j := a1.toNat) (dK D_Searches_comesBefore 7 rfl) (hw_0_4 (hw_8_0 (hw_6_1 hc0))) rfl hi1 rfl ?_
  refine g_aloadn (pc := 14) (i0 := 3) (j := 0) (dK D_Searches_comesBefore 8 rfl) rfl rfl ?_
  refine vg_getA (pc := 15) (ci := 0) (f := 4) (dK D_Searches_comesBefore 9 rfl) q_104 (hw_8_0 (hw_6_1 hc0)) (ltK rfl) (ltK rfl) rfl ?_
  refine g_iloadn (pc := 18) (i0 := 2) (j := 3) (dK D_Searches_comesBefore 10 rfl) rfl rfl ?_
  refine gdE h (fun hi2 h => ?_)
  refine vg_iaload (pc := 19) (j := a2.toNat) (dK D_Searches_comesBefore 11 rfl) (hw_0_4 (hw_8_0 (hw_6_1 hc0))) rfl hi2 rfl ?_
  refine vg_icmp_eq (pc := 20) (t := 44) (dK D_Searches_comesBefore 12 rfl) rfl (g_in _ _ _) (g_in _ _ _) (fun hc6 => ?_) (fun hc6 => ?_)
  · replace h := ifP h hc6
    refine g_aloadn (pc := 44) (i0 := 3) (j := 0) (dK D_Searches_comesBefore 26 rfl) rfl rfl ?_
    refine vg_getA (pc := 45) (ci := 0) (f := 0) (dK D_Searches_comesBefore 27 rfl) q_88 (hw_8_0 (hw_6_1 hc0)) (ltK rfl) (ltK rfl) rfl ?_
    refine g_iloadn (pc := 48) (i0 := 1) (j := 2) (dK D_Searches_comesBefore 28 rfl) rfl rfl ?_
    refine vg_iaload (pc := 49) (j := a1.toNat) (dK D_Searches_comesBefore 29 rfl) (hw_0_0 (hw_8_0 (hw_6_1 hc0))) rfl hi1 rfl ?_
    refine g_aloadn (pc := 50) (i0 := 3) (j := 0) (dK D_Searches_comesBefore 30 rfl) rfl rfl ?_
    refine vg_getA (pc := 51) (ci := 0) (f := 0) (dK D_Searches_comesBefore 31 rfl) q_88 (hw_8_0 (hw_6_1 hc0)) (ltK rfl) (ltK rfl) rfl ?_
    refine g_iloadn (pc := 54) (i0 := 2) (j := 3) (dK D_Searches_comesBefore 32 rfl) rfl rfl ?_
    refine vg_iaload (pc := 55) (j := a2.toNat) (dK D_Searches_comesBefore 33 rfl) (hw_0_0 (hw_8_0 (hw_6_1 hc0))) rfl hi2 rfl ?_
    refine vg_icmp_le (pc := 56) (t := 63) (dK D_Searches_comesBefore 34 rfl) rfl (g_in _ _ _) (g_in _ _ _) (fun hc4 => ?_) (fun hc4 => ?_)
    · replace h := ifP h hc4
      refine vg_iconst (pc := 63) (dK D_Searches_comesBefore 37 rfl) ?_
      exact vg_iretB (pc := 64) (b := false) (dK D_Searches_comesBefore 38 rfl) rfl (leK rfl) (leK rfl) (fun _ => rfl) (by obtain rfl := Option.some.inj h; exact ⟨rfl, rfl⟩)
    · replace h := ifN h hc4
      refine vg_iconst (pc := 59) (dK D_Searches_comesBefore 35 rfl) ?_
      refine g_goto (pc := 60) (tgt := 64) (dK D_Searches_comesBefore 36 rfl) rfl ?_
      exact vg_iretB (pc := 64) (b := true) (dK D_Searches_comesBefore 38 rfl) rfl (leK rfl) (leK rfl) (fun _ => rfl) (by obtain rfl := Option.some.inj h; exact ⟨rfl, rfl⟩)
  · replace h := ifN h hc6
    refine g_aloadn (pc := 23) (i0 := 3) (j := 0) (dK D_Searches_comesBefore 13 rfl) rfl rfl ?_
    refine vg_getA (pc := 24) (ci := 0) (f := 4) (dK D_Searches_comesBefore 14 rfl) q_104 (hw_8_0 (hw_6_1 hc0)) (ltK rfl) (ltK rfl) rfl ?_
    refine g_iloadn (pc := 27) (i0 := 1) (j := 2) (dK D_Searches_comesBefore 15 rfl) rfl rfl ?_
    refine vg_iaload (pc := 28) (j := a1.toNat) (dK D_Searches_comesBefore 16 rfl) (hw_0_4 (hw_8_0 (hw_6_1 hc0))) rfl hi1 rfl ?_
    refine g_aloadn (pc := 29) (i0 := 3) (j := 0) (dK D_Searches_comesBefore 17 rfl) rfl rfl ?_
    refine vg_getA (pc := 30) (ci := 0) (f := 4) (dK D_Searches_comesBefore 18 rfl) q_104 (hw_8_0 (hw_6_1 hc0)) (ltK rfl) (ltK rfl) rfl ?_
    refine g_iloadn (pc := 33) (i0 := 2) (j := 3) (dK D_Searches_comesBefore 19 rfl) rfl rfl ?_
    refine vg_iaload (pc := 34) (j := a2.toNat) (dK D_Searches_comesBefore 20 rfl) (hw_0_4 (hw_8_0 (hw_6_1 hc0))) rfl hi2 rfl ?_
    refine vg_icmp_le (pc := 35) (t := 42) (dK D_Searches_comesBefore 21 rfl) rfl (g_in _ _ _) (g_in _ _ _) (fun hc5 => ?_) (fun hc5 => ?_)
    · replace h := ifP h hc5
      refine vg_iconst (pc := 42) (dK D_Searches_comesBefore 24 rfl) ?_
      exact vg_iretB (pc := 43) (b := false) (dK D_Searches_comesBefore 25 rfl) rfl (leK rfl) (leK rfl) (fun _ => rfl) (by obtain rfl := Option.some.inj h; exact ⟨rfl, rfl⟩)
    · replace h := ifN h hc5
      refine vg_iconst (pc := 38) (dK D_Searches_comesBefore 22 rfl) ?_
      refine g_goto (pc := 39) (tgt := 43) (dK D_Searches_comesBefore 23 rfl) rfl ?_
      exact vg_iretB (pc := 43) (b := true) (dK D_Searches_comesBefore 25 rfl) rfl (leK rfl) (leK rfl) (fun _ => rfl) (by obtain rfl := Option.some.inj h; exact ⟨rfl, rfl⟩)
def lb_Searches_insertAd_2 (c0 : Nat) (a1 : Int) (go : Int × St → Option (Int × St)) (a3 : Int) (S : St) : Option (Int × St) := if a3 ≤ 0 then (some (a3, S)) else (if 0 ≤ (a3 - 1) ∧ (a3 - 1) < 40 then (bnO (fn_Searches_comesBefore c0 a1 (g S (tgt c0 2) (((a3 - 1)).toNat)) S) fun p2 => if p2 = true then (if 0 ≤ a3 ∧ a3 < 40 then (nm (u S (tgt c0 2) a3.toNat (g S (tgt c0 2) (((a3 - 1)).toNat))) fun S5 => nm (wr (a3 + (-1))) fun v6 => go (v6, S5)) else none) else (some (a3, S))) else none)
def lo_Searches_insertAd_2 (c0 : Nat) (a1 : Int) : Nat → Int × St → Option (Int × St) := lp fun go p => lb_Searches_insertAd_2 c0 a1 go p.1 p.2
theorem tl_Searches_insertAd_2 {E : EV} {X : XT} {c0 : Nat} (hc0 : HC X 6 c0) {a1 : Int} (ha1 : inR a1) {K : RK → PS → Prop} {q : Int × St} (hx : inR q.1 → Go E M_Searches_insertAd 0 0 42 [(0, .ref c0), (1, V a1), (3, V q.1)] [] (WX X q.2) 0 0 K) : ∀ n a, lo_Searches_insertAd_2 c0 a1 n a = some q → inR a.1 → Go E M_Searches_insertAd 0 0 2 [(0, .ref c0), (1, V a1), (3, V a.1)] [] (WX X a.2) 0 0 K := by
  refine lp_ind (P := fun a : Int × St => inR a.1 → Go E M_Searches_insertAd 0 0 2 [(0, .ref c0), (1, V a1), (3, V a.1)] [] (WX X a.2) 0 0 K) (fun go ih a h => ?_)
  obtain ⟨a3, S⟩ := a
  intro ha3
  show Go E M_Searches_insertAd 0 0 2 [(0, .ref c0), (1, V a1), (3, V a3)] [] (WX X S) 0 0 K
  replace h : lb_Searches_insertAd_2 c0 a1 go a3 S = some q := h
  unfold lb_Searches_insertAd_2 at h
  refine g_iloadn (pc := 2) (i0 := 3) (j := 2) (dK D_Searches_insertAd 2 rfl) rfl rfl ?_
  refine vg_if_le (pc := 3) (t := 42) (dK D_Searches_insertAd 3 rfl) rfl ha3 (fun hc7 => ?_) (fun hc7 => ?_)
  · replace h := ifP h hc7
    obtain rfl := Option.some.inj h
    exact hx ha3
  · replace h := ifN h hc7
    refine g_aloadn (pc := 6) (i0 := 0) (j := 0) (dK D_Searches_insertAd 4 rfl) rfl rfl ?_
    refine g_iloadn (pc := 7) (i0 := 1) (j := 1) (dK D_Searches_insertAd 5 rfl) rfl rfl ?_
    refine g_aloadn (pc := 8) (i0 := 0) (j := 0) (dK D_Searches_insertAd 6 rfl) rfl rfl ?_
    refine vg_getA (pc := 9) (ci := 6) (f := 2) (dK D_Searches_insertAd 7 rfl) q_382 hc0 (ltK rfl) (ltK rfl) rfl ?_
    refine g_iloadn (pc := 12) (i0 := 3) (j := 2) (dK D_Searches_insertAd 8 rfl) rfl rfl ?_
    refine vg_iconst (pc := 13) (dK D_Searches_insertAd 9 rfl) ?_
    refine vg_isub (pc := 14) (dK D_Searches_insertAd 10 rfl) ?_
    refine gdE h (fun hi1 h => ?_)
    refine vg_iaload (pc := 15) (j := ((a3 - 1)).toNat) (dK D_Searches_insertAd 11 rfl) (hw_6_2 hc0) rfl hi1 rfl ?_
    refine bnE h (fun p2 e_p2 h => ?_)
    refine vg_cV (pc := 16) (As := [V a1, V (g S (tgt c0 2) (((a3 - 1)).toNat))]) (rest := []) (mc' := 0) (ms' := 0) (dK D_Searches_insertAd 12 rfl) K_Searches_74 (fitK rfl) (ltK rfl) hc0 rfl (leK rfl) (leK rfl) (leK rfl) (tf_Searches_comesBefore hc0 ha1 (g_in _ _ _) e_p2) (kcB ?_)
    refine vg_ifB_eq (pc := 19) (b := p2) (t := 42) (dK D_Searches_insertAd 13 rfl) rfl (fun hc3 => ?_) (fun hc3 => ?_)
    · replace h := ifP h hc3
      refine g_aloadn (pc := 22) (i0 := 0) (j := 0) (dK D_Searches_insertAd 14 rfl) rfl rfl ?_
      refine vg_getA (pc := 23) (ci := 6) (f := 2) (dK D_Searches_insertAd 15 rfl) q_382 hc0 (ltK rfl) (ltK rfl) rfl ?_
      refine g_iloadn (pc := 26) (i0 := 3) (j := 2) (dK D_Searches_insertAd 16 rfl) rfl rfl ?_
      refine g_aloadn (pc := 27) (i0 := 0) (j := 0) (dK D_Searches_insertAd 17 rfl) rfl rfl ?_
      refine vg_getA (pc := 28) (ci := 6) (f := 2) (dK D_Searches_insertAd 18 rfl) q_382 hc0 (ltK rfl) (ltK rfl) rfl ?_
      refine g_iloadn (pc := 31) (i0 := 3) (j := 2) (dK D_Searches_insertAd 19 rfl) rfl rfl ?_
      refine vg_iconst (pc := 32) (dK D_Searches_insertAd 20 rfl) ?_
      refine vg_isub (pc := 33) (dK D_Searches_insertAd 21 rfl) ?_
      refine vg_iaload (pc := 34) (j := ((a3 - 1)).toNat) (dK D_Searches_insertAd 22 rfl) (hw_6_2 hc0) rfl hi1 rfl ?_
      refine gdE h (fun hi4 h => ?_)
      refine nmE h (fun S5 e_S5 h => ?_)
      refine vg_iastore (pc := 35) (z := (g S (tgt c0 2) (((a3 - 1)).toNat))) (dK D_Searches_insertAd 23 rfl) (hw_6_2 hc0) rfl hi4 rfl e_S5 ?_
      refine nmE h (fun v6 e_v6 h => ?_)
      refine vg_iinc (pc := 36) (j := 2) (a := a3) (z := -1) (ls2 := [(3, V v6), (0, .ref c0), (1, V a1)]) (dK D_Searches_insertAd 24 rfl) rfl e_v6 (ltK rfl) rfl ?_
      refine g_goto (pc := 39) (tgt := 2) (dK D_Searches_insertAd 25 rfl) rfl ?_
      refine gL_weak (ls' := [(0, .ref c0), (1, V a1), (3, V v6)]) (sbc 1 rfl (sbc 2 rfl (sbc 0 rfl sbn))) ?_
      replace h := ih _ h
      exact h (Vn_in e_v6)
    · replace h := ifN h hc3
      obtain rfl := Option.some.inj h
      exact hx ha3
def fn_Searches_insertAd (c0 : Nat) (a1 : Int) (a2 : Int) (S : St) : Option (St) := bnO (lo_Searches_insertAd_2 c0 a1 FU (a2, S)) fun p8 => if 0 ≤ p8.1 ∧ p8.1 < 40 then (nm (u p8.2 (tgt c0 2) ((p8.1).toNat) a1) fun S10 => some S10) else none
theorem tf_Searches_insertAd {E : EV} {X : XT} {c0 : Nat} (hc0 : HC X 6 c0) {a1 : Int} (ha1 : inR a1) {a2 : Int} (ha2 : inR a2) {S : St} {q : St} (h : fn_Searches_insertAd c0 a1 a2 S = some q) : Ev E M_Searches_insertAd [.ref c0, V a1, V a2] (WX X S) 0 0 (KU X q) := by
  refine Ev.of pn_Searches rfl (leK rfl) ?_
  show Go E M_Searches_insertAd 0 0 0 [(0, .ref c0), (1, V a1), (2, V a2)] [] (WX X S) 0 0 (KU X q)
  unfold fn_Searches_insertAd at h
  refine g_iloadn (pc := 0) (i0 := 2) (j := 2) (dK D_Searches_insertAd 0 rfl) rfl rfl ?_
  refine g_istoren (pc := 1) (i0 := 3) (ls2 := [(3, V a2), (0, .ref c0), (1, V a1), (2, V a2)]) (dK D_Searches_insertAd 1 rfl) rfl (ltK rfl) rfl ?_
  refine bnE h (fun p8 e_p8 h => ?_)
  refine gL_weak (ls' := [(0, .ref c0), (1, V a1), (3, V a2)]) (sbc 1 rfl (sbc 2 rfl (sbc 0 rfl sbn))) ?_
  refine tl_Searches_insertAd_2 hc0 ha1 (fun hx3_p8 => ?_) FU (a2, S) e_p8 ha2
  refine g_aloadn (pc := 42) (i0 := 0) (j := 0) (dK D_Searches_insertAd 26 rfl) rfl rfl ?_
  refine vg_getA (pc := 43) (ci := 6) (f := 2) (dK D_Searches_insertAd 27 rfl) q_382 hc0 (ltK rfl) (ltK rfl) rfl ?_
  refine g_iloadn (pc := 46) (i0 := 3) (j := 2) (dK D_Searches_insertAd 28 rfl) rfl rfl ?_
  refine g_iloadn (pc := 47) (i0 := 1) (j := 1) (dK D_Searches_insertAd 29 rfl) rfl rfl ?_
  refine gdE h (fun hi9 h => ?_)
  refine nmE h (fun S10 e_S10 h => ?_)
  refine vg_iastore (pc := 48) (z := a1) (dK D_Searches_insertAd 30 rfl) (hw_6_2 hc0) rfl hi9 rfl e_S10 ?_
  exact g_return (pc := 49) (dK D_Searches_insertAd 31 rfl) rfl (leK rfl) (leK rfl) (fun _ => rfl) (by obtain rfl := Option.some.inj h; exact ⟨rfl, rfl⟩)
def lb_Searches_placeFreeAds_4 (c0 : Nat) (go : Int × Int × St → Option (Int × St)) (a1 : Int) (a2 : Int) (S : St) : Option (Int × St) := if (g S (tgt (tgt c0 1) 0) 7) ≤ a2 then (some (a1, S)) else (if 0 ≤ a2 ∧ a2 < 40 then (if (g S (tgt (tgt (tgt c0 1) 0) 6) a2.toNat) = 0 then (bnO (fn_Searches_insertAd c0 a2 a1 S) fun p3 => nm (wr (a1 + 1)) fun v4 => nm (wr (a2 + 1)) fun v5 => go (v4, v5, p3)) else (nm (wr (a2 + 1)) fun v2 => go (a1, v2, S))) else none)
def lo_Searches_placeFreeAds_4 (c0 : Nat) : Nat → Int × Int × St → Option (Int × St) := lp fun go p => lb_Searches_placeFreeAds_4 c0 go p.1 p.2.1 p.2.2
theorem tl_Searches_placeFreeAds_4 {E : EV} {X : XT} {c0 : Nat} (hc0 : HC X 6 c0) {K : RK → PS → Prop} {q : Int × St} (hx : inR q.1 → Go E M_Searches_placeFreeAds 0 0 48 [(0, .ref c0), (1, V q.1)] [] (WX X q.2) 0 0 K) : ∀ n a, lo_Searches_placeFreeAds_4 c0 n a = some q → inR a.1 → inR a.2.1 → Go E M_Searches_placeFreeAds 0 0 4 [(0, .ref c0), (1, V a.1), (2, V a.2.1)] [] (WX X a.2.2) 0 0 K := by
  refine lp_ind (P := fun a : Int × Int × St => inR a.1 → inR a.2.1 → Go E M_Searches_placeFreeAds 0 0 4 [(0, .ref c0), (1, V a.1), (2, V a.2.1)] [] (WX X a.2.2) 0 0 K) (fun go ih a h => ?_)
  obtain ⟨a1, a2, S⟩ := a
  intro ha1 ha2
  show Go E M_Searches_placeFreeAds 0 0 4 [(0, .ref c0), (1, V a1), (2, V a2)] [] (WX X S) 0 0 K
  replace h : lb_Searches_placeFreeAds_4 c0 go a1 a2 S = some q := h
  unfold lb_Searches_placeFreeAds_4 at h
  refine g_iloadn (pc := 4) (i0 := 2) (j := 2) (dK D_Searches_placeFreeAds_0 4 rfl) rfl rfl ?_
  refine g_aloadn (pc := 5) (i0 := 0) (j := 0) (dK D_Searches_placeFreeAds_0 5 rfl) rfl rfl ?_
  refine vg_getO (pc := 6) (ci := 6) (f := 1) (dK D_Searches_placeFreeAds_0 6 rfl) q_381 hc0 (ltK rfl) (ltK rfl) rfl ?_
  refine vg_getO (pc := 9) (ci := 8) (f := 0) (dK D_Searches_placeFreeAds_0 7 rfl) q_232 (hw_6_1 hc0) (ltK rfl) (ltK rfl) rfl ?_
  refine vg_getI (pc := 12) (ci := 0) (f := 7) (dK D_Searches_placeFreeAds_0 8 rfl) q_117 (hw_8_0 (hw_6_1 hc0)) (ltK rfl) (ltK rfl) rfl ?_
  refine vg_icmp_ge (pc := 15) (t := 48) (dK D_Searches_placeFreeAds_0 9 rfl) rfl ha2 (g_in _ _ _) (fun hc7 => ?_) (fun hc7 => ?_)
  · replace h := ifP h hc7
    obtain rfl := Option.some.inj h
    refine gL_weak (ls' := [(0, .ref c0), (1, V a1)]) (sbc 0 rfl (sbc 1 rfl sbn)) ?_
    exact hx ha1
  · replace h := ifN h hc7
    refine g_aloadn (pc := 18) (i0 := 0) (j := 0) (dK D_Searches_placeFreeAds_0 10 rfl) rfl rfl ?_
    refine vg_getO (pc := 19) (ci := 6) (f := 1) (dK D_Searches_placeFreeAds_0 11 rfl) q_381 hc0 (ltK rfl) (ltK rfl) rfl ?_
    refine vg_getO (pc := 22) (ci := 8) (f := 0) (dK D_Searches_placeFreeAds_0 12 rfl) q_232 (hw_6_1 hc0) (ltK rfl) (ltK rfl) rfl ?_
    refine vg_getA (pc := 25) (ci := 0) (f := 6) (dK D_Searches_placeFreeAds_0 13 rfl) q_112 (hw_8_0 (hw_6_1 hc0)) (ltK rfl) (ltK rfl) rfl ?_
    refine g_iloadn (pc := 28) (i0 := 2) (j := 2) (dK D_Searches_placeFreeAds_0 14 rfl) rfl rfl ?_
    refine gdE h (fun hi1 h => ?_)
    refine vg_iaload (pc := 29) (j := a2.toNat) (dK D_Searches_placeFreeAds_0 15 rfl) (hw_0_6 (hw_8_0 (hw_6_1 hc0))) rfl hi1 rfl ?_
    refine vg_if_ne (pc := 30) (t := 42) (dK D_Searches_placeFreeAds_0 16 rfl) rfl (g_in _ _ _) (fun hc6 => ?_) (fun hc6 => ?_)
    · replace h := ifN h hc6
      refine nmE h (fun v2 e_v2 h => ?_)
      refine vg_iinc (pc := 42) (j := 2) (a := a2) (z := 1) (ls2 := [(2, V v2), (0, .ref c0), (1, V a1)]) (dK D_Searches_placeFreeAds_0 22 rfl) rfl e_v2 (ltK rfl) rfl ?_
      refine g_goto (pc := 45) (tgt := 4) (dK D_Searches_placeFreeAds_0 23 rfl) rfl ?_
      refine gL_weak (ls' := [(0, .ref c0), (1, V a1), (2, V v2)]) (sbc 1 rfl (sbc 2 rfl (sbc 0 rfl sbn))) ?_
      replace h := ih _ h
      exact h ha1 (Vn_in e_v2)
    · replace h := ifP h hc6
      refine g_aloadn (pc := 33) (i0 := 0) (j := 0) (dK D_Searches_placeFreeAds_0 17 rfl) rfl rfl ?_
      refine g_iloadn (pc := 34) (i0 := 2) (j := 2) (dK D_Searches_placeFreeAds_0 18 rfl) rfl rfl ?_
      refine g_iloadn (pc := 35) (i0 := 1) (j := 1) (dK D_Searches_placeFreeAds_0 19 rfl) rfl rfl ?_
      refine bnE h (fun p3 e_p3 h => ?_)
      refine vg_cV (pc := 36) (As := [V a2, V a1]) (rest := []) (mc' := 0) (ms' := 0) (dK D_Searches_placeFreeAds_0 20 rfl) K_Searches_63 (fitK rfl) (ltK rfl) hc0 rfl (leK rfl) (leK rfl) (leK rfl) (tf_Searches_insertAd hc0 ha2 ha1 e_p3) (kcU ?_)
      refine nmE h (fun v4 e_v4 h => ?_)
      refine vg_iinc (pc := 39) (j := 1) (a := a1) (z := 1) (ls2 := [(1, V v4), (0, .ref c0), (2, V a2)]) (dK D_Searches_placeFreeAds_0 21 rfl) rfl e_v4 (ltK rfl) rfl ?_
      refine nmE h (fun v5 e_v5 h => ?_)
      refine vg_iinc (pc := 42) (j := 2) (a := a2) (z := 1) (ls2 := [(2, V v5), (1, V v4), (0, .ref c0)]) (dK D_Searches_placeFreeAds_0 22 rfl) rfl e_v5 (ltK rfl) rfl ?_
      refine g_goto (pc := 45) (tgt := 4) (dK D_Searches_placeFreeAds_0 23 rfl) rfl ?_
      refine gL_weak (ls' := [(0, .ref c0), (1, V v4), (2, V v5)]) (sbc 2 rfl (sbc 1 rfl (sbc 0 rfl sbn))) ?_
      replace h := ih _ h
      exact h (Vn_in e_v4) (Vn_in e_v5)
def lb_Searches_placeFreeAds_52 (c0 : Nat) (a1 : Int) (go : Int × Int × St → Option (Int × St)) (a2 : Int) (a3 : Int) (S : St) : Option (Int × St) := if a1 ≤ a3 then (some (a2, S)) else (if 0 ≤ a3 ∧ a3 < 40 then (bnO (fn_Plan_firstFor (tgt c0 0) (g S (tgt c0 2) a3.toNat) 1 S) fun p10 => if p10 = (-1) then (nm (wr (a3 + 1)) fun v11 => go (a2, v11, S)) else (if 0 ≤ (g S (tgt c0 2) a3.toNat) ∧ (g S (tgt c0 2) a3.toNat) < 40 then (nm (u S (tgt (tgt (tgt c0 1) 0) 6) (((g S (tgt c0 2) a3.toNat)).toNat) p10) fun S13 => bnO (fn_Plan_recount (tgt c0 0) S13) fun p14 => nm (wr (a2 + 1)) fun v15 => nm (wr (a3 + 1)) fun v16 => go (v15, v16, p14)) else none)) else none)
def lo_Searches_placeFreeAds_52 (c0 : Nat) (a1 : Int) : Nat → Int × Int × St → Option (Int × St) := lp fun go p => lb_Searches_placeFreeAds_52 c0 a1 go p.1 p.2.1 p.2.2
theorem tl_Searches_placeFreeAds_52 {E : EV} {X : XT} {c0 : Nat} (hc0 : HC X 6 c0) {a1 : Int} (ha1 : inR a1) {K : RK → PS → Prop} {q : Int × St} (hx : inR q.1 → Go E M_Searches_placeFreeAds 0 0 114 [(2, V q.1)] [] (WX X q.2) 0 0 K) : ∀ n a, lo_Searches_placeFreeAds_52 c0 a1 n a = some q → inR a.1 → inR a.2.1 → Go E M_Searches_placeFreeAds 0 0 52 [(0, .ref c0), (1, V a1), (2, V a.1), (3, V a.2.1)] [] (WX X a.2.2) 0 0 K := by
  refine lp_ind (P := fun a : Int × Int × St => inR a.1 → inR a.2.1 → Go E M_Searches_placeFreeAds 0 0 52 [(0, .ref c0), (1, V a1), (2, V a.1), (3, V a.2.1)] [] (WX X a.2.2) 0 0 K) (fun go ih a h => ?_)
  obtain ⟨a2, a3, S⟩ := a
  intro ha2 ha3
  show Go E M_Searches_placeFreeAds 0 0 52 [(0, .ref c0), (1, V a1), (2, V a2), (3, V a3)] [] (WX X S) 0 0 K
  replace h : lb_Searches_placeFreeAds_52 c0 a1 go a2 a3 S = some q := h
  unfold lb_Searches_placeFreeAds_52 at h
  refine g_iloadn (pc := 52) (i0 := 3) (j := 3) (dK D_Searches_placeFreeAds_0 28 rfl) rfl rfl ?_
  refine g_iloadn (pc := 53) (i0 := 1) (j := 1) (dK D_Searches_placeFreeAds_0 29 rfl) rfl rfl ?_
  refine vg_icmp_ge (pc := 54) (t := 114) (dK D_Searches_placeFreeAds_0 30 rfl) rfl ha3 ha1 (fun hc18 => ?_) (fun hc18 => ?_)
  · replace h := ifP h hc18
    obtain rfl := Option.some.inj h
    refine gL_weak (ls' := [(2, V a2)]) (sbc 2 rfl sbn) ?_
    exact hx ha2
  · replace h := ifN h hc18
    refine g_aloadn (pc := 57) (i0 := 0) (j := 0) (dK D_Searches_placeFreeAds_0 31 rfl) rfl rfl ?_
    refine vg_getO (pc := 58) (ci := 6) (f := 0) (dK D_Searches_placeFreeAds_0 32 rfl) q_379 hc0 (ltK rfl) (ltK rfl) rfl ?_
    refine g_aloadn (pc := 61) (i0 := 0) (j := 0) (dK D_Searches_placeFreeAds_0 33 rfl) rfl rfl ?_
    refine vg_getA (pc := 62) (ci := 6) (f := 2) (dK D_Searches_placeFreeAds_0 34 rfl) q_382 hc0 (ltK rfl) (ltK rfl) rfl ?_
    refine g_iloadn (pc := 65) (i0 := 3) (j := 3) (dK D_Searches_placeFreeAds_0 35 rfl) rfl rfl ?_
    refine gdE h (fun hi9 h => ?_)
    refine vg_iaload (pc := 66) (j := a3.toNat) (dK D_Searches_placeFreeAds_0 36 rfl) (hw_6_2 hc0) rfl hi9 rfl ?_
    refine vg_iconst (pc := 67) (dK D_Searches_placeFreeAds_0 37 rfl) ?_
    refine bnE h (fun p10 e_p10 h => ?_)
    refine vg_cV (pc := 68) (As := [V (g S (tgt c0 2) a3.toNat), V 1]) (rest := []) (mc' := 0) (ms' := 0) (dK D_Searches_placeFreeAds_0 38 rfl) K_Searches_67 (fitK rfl) (ltK rfl) (hw_6_0 hc0) rfl (leK rfl) (leK rfl) (leK rfl) (tf_Plan_firstFor (hw_6_0 hc0) (g_in _ _ _) (inRk rfl) e_p10) (kcI (fun h_p10 => ?_))
    refine g_istore (pc := 71) (ls2 := [(4, V p10), (0, .ref c0), (1, V a1), (2, V a2), (3, V a3)]) (dK D_Searches_placeFreeAds_0 39 rfl) (ltK rfl) rfl ?_
    refine g_iload (pc := 73) (j := 0) (dK D_Searches_placeFreeAds_0 40 rfl) rfl ?_
    refine vg_iconst (pc := 75) (dK D_Searches_placeFreeAds_0 41 rfl) ?_
    refine vg_icmp_eq (pc := 76) (t := 108) (dK D_Searches_placeFreeAds_0 42 rfl) rfl h_p10 (inRk rfl) (fun hc17 => ?_) (fun hc17 => ?_)
    · replace h := ifP h hc17
      refine nmE h (fun v11 e_v11 h => ?_)
      refine vg_iinc (pc := 108) (j := 4) (a := a3) (z := 1) (ls2 := [(3, V v11), (4, V p10), (0, .ref c0), (1, V a1), (2, V a2)]) (dK D_Searches_placeFreeAds_1 7 rfl) rfl e_v11 (ltK rfl) rfl ?_
      refine g_goto (pc := 111) (tgt := 52) (dK D_Searches_placeFreeAds_1 8 rfl) rfl ?_
      refine gL_weak (ls' := [(0, .ref c0), (1, V a1), (2, V a2), (3, V v11)]) (sbc 2 rfl (sbc 3 rfl (sbc 4 rfl (sbc 0 rfl sbn)))) ?_
      replace h := ih _ h
      exact h ha2 (Vn_in e_v11)
    · replace h := ifN h hc17
      refine g_aloadn (pc := 79) (i0 := 0) (j := 1) (dK D_Searches_placeFreeAds_0 43 rfl) rfl rfl ?_
      refine vg_getO (pc := 80) (ci := 6) (f := 1) (dK D_Searches_placeFreeAds_0 44 rfl) q_381 hc0 (ltK rfl) (ltK rfl) rfl ?_
      refine vg_getO (pc := 83) (ci := 8) (f := 0) (dK D_Searches_placeFreeAds_0 45 rfl) q_232 (hw_6_1 hc0) (ltK rfl) (ltK rfl) rfl ?_
      refine vg_getA (pc := 86) (ci := 0) (f := 6) (dK D_Searches_placeFreeAds_0 46 rfl) q_112 (hw_8_0 (hw_6_1 hc0)) (ltK rfl) (ltK rfl) rfl ?_
      refine g_aloadn (pc := 89) (i0 := 0) (j := 1) (dK D_Searches_placeFreeAds_0 47 rfl) rfl rfl ?_
      refine vg_getA (pc := 90) (ci := 6) (f := 2) (dK D_Searches_placeFreeAds_0 48 rfl) q_382 hc0 (ltK rfl) (ltK rfl) rfl ?_
      refine g_iloadn (pc := 93) (i0 := 3) (j := 4) (dK D_Searches_placeFreeAds_0 49 rfl) rfl rfl ?_
      refine vg_iaload (pc := 94) (j := a3.toNat) (dK D_Searches_placeFreeAds_1 0 rfl) (hw_6_2 hc0) rfl hi9 rfl ?_
      refine g_iload (pc := 95) (j := 0) (dK D_Searches_placeFreeAds_1 1 rfl) rfl ?_
      refine gdE h (fun hi12 h => ?_)
      refine nmE h (fun S13 e_S13 h => ?_)
      refine vg_iastore (pc := 97) (z := p10) (dK D_Searches_placeFreeAds_1 2 rfl) (hw_0_6 (hw_8_0 (hw_6_1 hc0))) rfl hi12 rfl e_S13 ?_
      refine g_aloadn (pc := 98) (i0 := 0) (j := 1) (dK D_Searches_placeFreeAds_1 3 rfl) rfl rfl ?_
      refine vg_getO (pc := 99) (ci := 6) (f := 0) (dK D_Searches_placeFreeAds_1 4 rfl) q_379 hc0 (ltK rfl) (ltK rfl) rfl ?_
      refine bnE h (fun p14 e_p14 h => ?_)
      refine vg_cV (pc := 102) (As := []) (rest := []) (mc' := 0) (ms' := 0) (dK D_Searches_placeFreeAds_1 5 rfl) K_Searches_71 (fitK rfl) (ltK rfl) (hw_6_0 hc0) rfl (leK rfl) (leK rfl) (leK rfl) (tf_Plan_recount (hw_6_0 hc0) e_p14) (kcU ?_)
      refine nmE h (fun v15 e_v15 h => ?_)
      refine vg_iinc (pc := 105) (j := 3) (a := a2) (z := 1) (ls2 := [(2, V v15), (4, V p10), (0, .ref c0), (1, V a1), (3, V a3)]) (dK D_Searches_placeFreeAds_1 6 rfl) rfl e_v15 (ltK rfl) rfl ?_
      refine nmE h (fun v16 e_v16 h => ?_)
      refine vg_iinc (pc := 108) (j := 4) (a := a3) (z := 1) (ls2 := [(3, V v16), (2, V v15), (4, V p10), (0, .ref c0), (1, V a1)]) (dK D_Searches_placeFreeAds_1 7 rfl) rfl e_v16 (ltK rfl) rfl ?_
      refine g_goto (pc := 111) (tgt := 52) (dK D_Searches_placeFreeAds_1 8 rfl) rfl ?_
      refine gL_weak (ls' := [(0, .ref c0), (1, V a1), (2, V v15), (3, V v16)]) (sbc 3 rfl (sbc 4 rfl (sbc 1 rfl (sbc 0 rfl sbn)))) ?_
      replace h := ih _ h
      exact h (Vn_in e_v15) (Vn_in e_v16)
def fn_Searches_placeFreeAds (c0 : Nat) (S : St) : Option (Int × St) := bnO (lo_Searches_placeFreeAds_4 c0 FU (0, 0, S)) fun p8 => bnO (lo_Searches_placeFreeAds_52 c0 p8.1 FU (0, 0, p8.2)) fun p19 => some (p19.1, p19.2)
theorem tf_Searches_placeFreeAds {E : EV} {X : XT} {c0 : Nat} (hc0 : HC X 6 c0) {S : St} {q : Int × St} (h : fn_Searches_placeFreeAds c0 S = some q) : Ev E M_Searches_placeFreeAds [.ref c0] (WX X S) 0 0 (KI X q.1 q.2) := by
  refine Ev.of pn_Searches rfl (leK rfl) ?_
  show Go E M_Searches_placeFreeAds 0 0 0 [(0, .ref c0)] [] (WX X S) 0 0 (KI X q.1 q.2)
  unfold fn_Searches_placeFreeAds at h
  refine vg_iconst (pc := 0) (dK D_Searches_placeFreeAds_0 0 rfl) ?_
  refine g_istoren (pc := 1) (i0 := 1) (ls2 := [(1, V 0), (0, .ref c0)]) (dK D_Searches_placeFreeAds_0 1 rfl) rfl (ltK rfl) rfl ?_
  refine vg_iconst (pc := 2) (dK D_Searches_placeFreeAds_0 2 rfl) ?_
  refine g_istoren (pc := 3) (i0 := 2) (ls2 := [(2, V 0), (1, V 0), (0, .ref c0)]) (dK D_Searches_placeFreeAds_0 3 rfl) rfl (ltK rfl) rfl ?_
  refine bnE h (fun p8 e_p8 h => ?_)
  refine gL_weak (ls' := [(0, .ref c0), (1, V 0), (2, V 0)]) (sbc 2 rfl (sbc 1 rfl (sbc 0 rfl sbn))) ?_
  refine tl_Searches_placeFreeAds_4 hc0 (fun hx1_p8 => ?_) FU (0, 0, S) e_p8 (inRk rfl) (inRk rfl)
  refine vg_iconst (pc := 48) (dK D_Searches_placeFreeAds_0 24 rfl) ?_
  refine g_istoren (pc := 49) (i0 := 2) (ls2 := [(2, V 0), (0, .ref c0), (1, V p8.1)]) (dK D_Searches_placeFreeAds_0 25 rfl) rfl (ltK rfl) rfl ?_
  refine vg_iconst (pc := 50) (dK D_Searches_placeFreeAds_0 26 rfl) ?_
  refine g_istoren (pc := 51) (i0 := 3) (ls2 := [(3, V 0), (2, V 0), (0, .ref c0), (1, V p8.1)]) (dK D_Searches_placeFreeAds_0 27 rfl) rfl (ltK rfl) rfl ?_
  refine bnE h (fun p19 e_p19 h => ?_)
  refine gL_weak (ls' := [(0, .ref c0), (1, V p8.1), (2, V 0), (3, V 0)]) (sbc 2 rfl (sbc 3 rfl (sbc 1 rfl (sbc 0 rfl sbn)))) ?_
  refine tl_Searches_placeFreeAds_52 hc0 hx1_p8 (fun hx2_p19 => ?_) FU (0, 0, p8.2) e_p19 (inRk rfl) (inRk rfl)
  refine g_iloadn (pc := 114) (i0 := 2) (j := 0) (dK D_Searches_placeFreeAds_1 9 rfl) rfl rfl ?_
  exact vg_iretI (pc := 115) (r := p19.1) (dK D_Searches_placeFreeAds_1 10 rfl) rfl (leK rfl) (leK rfl) (fun _ => rfl) (by obtain rfl := Option.some.inj h; exact ⟨rfl, hx2_p19, rfl⟩)
def fn_FP_placeAds (c0 : Nat) (S : St) : Option (Int × St) := bnO (fn_History_keep (tgt c0 4) (tgt (tgt c0 3) 0) S) fun p1 => bnO (fn_Searches_placeFreeAds (tgt c0 2) p1) fun p2 => some (p2.1, p2.2)
theorem tf_FP_placeAds {E : EV} {X : XT} {c0 : Nat} (hc0 : HC X 10 c0) {S : St} {q : Int × St} (h : fn_FP_placeAds c0 S = some q) : Ev E M_FP_placeAds [.ref c0] (WX X S) 0 0 (KI X q.1 q.2) := by
  refine Ev.of pn_FP rfl (leK rfl) ?_
  show Go E M_FP_placeAds 0 0 0 [(0, .ref c0)] [] (WX X S) 0 0 (KI X q.1 q.2)
  unfold fn_FP_placeAds at h
  refine g_aloadn (pc := 0) (i0 := 0) (j := 0) (dK D_FP_placeAds 0 rfl) rfl rfl ?_
  refine vg_getO (pc := 1) (ci := 10) (f := 4) (dK D_FP_placeAds 1 rfl) q_437 hc0 (ltK rfl) (ltK rfl) rfl ?_
  refine g_aloadn (pc := 4) (i0 := 0) (j := 0) (dK D_FP_placeAds 2 rfl) rfl rfl ?_
  refine vg_getO (pc := 5) (ci := 10) (f := 3) (dK D_FP_placeAds 3 rfl) q_436 hc0 (ltK rfl) (ltK rfl) rfl ?_
  refine vg_getO (pc := 8) (ci := 4) (f := 0) (dK D_FP_placeAds 4 rfl) q_303 (hw_10_3 hc0) (ltK rfl) (ltK rfl) rfl ?_
  refine bnE h (fun p1 e_p1 h => ?_)
  refine vg_cV (pc := 11) (As := [.ref (tgt (tgt c0 3) 0)]) (rest := []) (mc' := 0) (ms' := 0) (dK D_FP_placeAds 5 rfl) K_FP_155 (fitK rfl) (ltK rfl) (hw_10_4 hc0) rfl (leK rfl) (leK rfl) (leK rfl) (tf_History_keep (hw_10_4 hc0) (hw_4_0 (hw_10_3 hc0)) e_p1) (kcU ?_)
  refine g_aloadn (pc := 14) (i0 := 0) (j := 0) (dK D_FP_placeAds 6 rfl) rfl rfl ?_
  refine vg_getO (pc := 15) (ci := 10) (f := 2) (dK D_FP_placeAds 7 rfl) q_435 hc0 (ltK rfl) (ltK rfl) rfl ?_
  refine bnE h (fun p2 e_p2 h => ?_)
  refine vg_cV (pc := 18) (As := []) (rest := []) (mc' := 0) (ms' := 0) (dK D_FP_placeAds 8 rfl) K_FP_280 (fitK rfl) (ltK rfl) (hw_10_2 hc0) rfl (leK rfl) (leK rfl) (leK rfl) (tf_Searches_placeFreeAds (hw_10_2 hc0) e_p2) (kcI (fun h_p2 => ?_))
  exact vg_iretI (pc := 21) (r := p2.1) (dK D_FP_placeAds 9 rfl) rfl (leK rfl) (leK rfl) (fun _ => rfl) (by obtain rfl := Option.some.inj h; exact ⟨rfl, h_p2, rfl⟩)
def lb_Searches_layFirst_2 (c0 : Nat) (a1 : Int) (S : St) (go : Int → Option ((Bool × St) ⊕ (Unit))) (a2 : Int) : Option ((Bool × St) ⊕ (Unit)) := if (g S (tgt c0 0) 1) < a2 then (some (.inr ())) else (bnO (fn_Plan_layReason (tgt c0 0) a1 a2 S) fun p1 => if p1 = 0 then (if 0 ≤ a1 ∧ a1 < 10 then (nm (u S (tgt (tgt (tgt c0 1) 1) 4) a1.toNat a2) fun S4 => bnO (fn_Plan_recount (tgt c0 0) S4) fun p5 => some (.inl (true, p5))) else none) else (nm (wr (a2 + 1)) fun v2 => go v2))
def lo_Searches_layFirst_2 (c0 : Nat) (a1 : Int) (S : St) : Nat → Int → Option ((Bool × St) ⊕ (Unit)) := lp fun go p => lb_Searches_layFirst_2 c0 a1 S go p
theorem tl_Searches_layFirst_2 {E : EV} {X : XT} {c0 : Nat} (hc0 : HC X 6 c0) {a1 : Int} (ha1 : inR a1) {S : St} {K : RK → PS → Prop} {q : (Bool × St) ⊕ (Unit)} (hx : ∀ p, q = .inr p → Go E M_Searches_layFirst 0 0 53 [] [] (WX X S) 0 0 K) (hr : ∀ p, q = .inl p → K (.inl (some (V (bi p.1)))) (WX X p.2)) : ∀ n a, lo_Searches_layFirst_2 c0 a1 S n a = some q → inR a → Go E M_Searches_layFirst 0 0 2 [(0, .ref c0), (1, V a1), (2, V a)] [] (WX X S) 0 0 K := by
  refine lp_ind (P := fun a : Int => inR a → Go E M_Searches_layFirst 0 0 2 [(0, .ref c0), (1, V a1), (2, V a)] [] (WX X S) 0 0 K) (fun go ih a2 h => ?_)
  intro ha2
  show Go E M_Searches_layFirst 0 0 2 [(0, .ref c0), (1, V a1), (2, V a2)] [] (WX X S) 0 0 K
  replace h : lb_Searches_layFirst_2 c0 a1 S go a2 = some q := h
  unfold lb_Searches_layFirst_2 at h
  refine g_iloadn (pc := 2) (i0 := 2) (j := 2) (dK D_Searches_layFirst 2 rfl) rfl rfl ?_
  refine g_aloadn (pc := 3) (i0 := 0) (j := 0) (dK D_Searches_layFirst 3 rfl) rfl rfl ?_
  refine vg_getO (pc := 4) (ci := 6) (f := 0) (dK D_Searches_layFirst 4 rfl) q_379 hc0 (ltK rfl) (ltK rfl) rfl ?_
  refine vg_getI (pc := 7) (ci := 4) (f := 1) (dK D_Searches_layFirst 5 rfl) q_306 (hw_6_0 hc0) (ltK rfl) (ltK rfl) rfl ?_
  refine vg_icmp_gt (pc := 10) (t := 53) (dK D_Searches_layFirst 6 rfl) rfl ha2 (g_in _ _ _) (fun hc7 => ?_) (fun hc7 => ?_)
  · replace h := ifP h hc7
    refine gL_weak (ls' := []) sbn ?_
    exact hx _ (Option.some.inj h).symm 
  · replace h := ifN h hc7
    refine g_aloadn (pc := 13) (i0 := 0) (j := 0) (dK D_Searches_layFirst 7 rfl) rfl rfl ?_
    refine vg_getO (pc := 14) (ci := 6) (f := 0) (dK D_Searches_layFirst 8 rfl) q_379 hc0 (ltK rfl) (ltK rfl) rfl ?_
    refine g_iloadn (pc := 17) (i0 := 1) (j := 1) (dK D_Searches_layFirst 9 rfl) rfl rfl ?_
    refine g_iloadn (pc := 18) (i0 := 2) (j := 2) (dK D_Searches_layFirst 10 rfl) rfl rfl ?_
    refine bnE h (fun p1 e_p1 h => ?_)
    refine vg_cV (pc := 19) (As := [V a1, V a2]) (rest := []) (mc' := 0) (ms' := 0) (dK D_Searches_layFirst 11 rfl) K_Searches_102 (fitK rfl) (ltK rfl) (hw_6_0 hc0) rfl (leK rfl) (leK rfl) (leK rfl) (tf_Plan_layReason (hw_6_0 hc0) ha1 ha2 e_p1) (kcI (fun h_p1 => ?_))
    refine vg_if_ne (pc := 22) (t := 47) (dK D_Searches_layFirst 12 rfl) rfl h_p1 (fun hc6 => ?_) (fun hc6 => ?_)
    · replace h := ifN h hc6
      refine nmE h (fun v2 e_v2 h => ?_)
      refine vg_iinc (pc := 47) (j := 2) (a := a2) (z := 1) (ls2 := [(2, V v2), (0, .ref c0), (1, V a1)]) (dK D_Searches_layFirst 25 rfl) rfl e_v2 (ltK rfl) rfl ?_
      refine g_goto (pc := 50) (tgt := 2) (dK D_Searches_layFirst 26 rfl) rfl ?_
      refine gL_weak (ls' := [(0, .ref c0), (1, V a1), (2, V v2)]) (sbc 1 rfl (sbc 2 rfl (sbc 0 rfl sbn))) ?_
      replace h := ih _ h
      exact h (Vn_in e_v2)
    · replace h := ifP h hc6
      refine g_aloadn (pc := 25) (i0 := 0) (j := 0) (dK D_Searches_layFirst 13 rfl) rfl rfl ?_
      refine vg_getO (pc := 26) (ci := 6) (f := 1) (dK D_Searches_layFirst 14 rfl) q_381 hc0 (ltK rfl) (ltK rfl) rfl ?_
      refine vg_getO (pc := 29) (ci := 8) (f := 1) (dK D_Searches_layFirst 15 rfl) q_238 (hw_6_1 hc0) (ltK rfl) (ltK rfl) rfl ?_
      refine vg_getA (pc := 32) (ci := 9) (f := 4) (dK D_Searches_layFirst 16 rfl) q_160 (hw_8_1 (hw_6_1 hc0)) (ltK rfl) (ltK rfl) rfl ?_
      refine g_iloadn (pc := 35) (i0 := 1) (j := 1) (dK D_Searches_layFirst 17 rfl) rfl rfl ?_
      refine g_iloadn (pc := 36) (i0 := 2) (j := 2) (dK D_Searches_layFirst 18 rfl) rfl rfl ?_
      refine gdE h (fun hi3 h => ?_)
      refine nmE h (fun S4 e_S4 h => ?_)
      refine vg_iastore (pc := 37) (z := a2) (dK D_Searches_layFirst 19 rfl) (hw_9_4 (hw_8_1 (hw_6_1 hc0))) rfl hi3 rfl e_S4 ?_
      refine g_aloadn (pc := 38) (i0 := 0) (j := 0) (dK D_Searches_layFirst 20 rfl) rfl rfl ?_
      refine vg_getO (pc := 39) (ci := 6) (f := 0) (dK D_Searches_layFirst 21 rfl) q_379 hc0 (ltK rfl) (ltK rfl) rfl ?_
      refine bnE h (fun p5 e_p5 h => ?_)
      refine vg_cV (pc := 42) (As := []) (rest := []) (mc' := 0) (ms' := 0) (dK D_Searches_layFirst 22 rfl) K_Searches_71 (fitK rfl) (ltK rfl) (hw_6_0 hc0) rfl (leK rfl) (leK rfl) (leK rfl) (tf_Plan_recount (hw_6_0 hc0) e_p5) (kcU ?_)
      refine vg_iconst (pc := 45) (dK D_Searches_layFirst 23 rfl) ?_
      exact vg_iretB (pc := 46) (b := true) (dK D_Searches_layFirst 24 rfl) rfl (leK rfl) (leK rfl) (fun _ => rfl) (hr _ (Option.some.inj h).symm)
def fn_Searches_layFirst (c0 : Nat) (a1 : Int) (S : St) : Option (Bool × St) := bnS (lo_Searches_layFirst_2 c0 a1 S FU 1) (fun p9 => some (p9.1, p9.2)) fun p8 => some (false, S)
theorem tf_Searches_layFirst {E : EV} {X : XT} {c0 : Nat} (hc0 : HC X 6 c0) {a1 : Int} (ha1 : inR a1) {S : St} {q : Bool × St} (h : fn_Searches_layFirst c0 a1 S = some q) : Ev E M_Searches_layFirst [.ref c0, V a1] (WX X S) 0 0 (KB X q.1 q.2) := by
  refine Ev.of pn_Searches rfl (leK rfl) ?_
  show Go E M_Searches_layFirst 0 0 0 [(0, .ref c0), (1, V a1)] [] (WX X S) 0 0 (KB X q.1 q.2)
  unfold fn_Searches_layFirst at h
  refine vg_iconst (pc := 0) (dK D_Searches_layFirst 0 rfl) ?_
  refine g_istoren (pc := 1) (i0 := 2) (ls2 := [(2, V 1), (0, .ref c0), (1, V a1)]) (dK D_Searches_layFirst 1 rfl) rfl (ltK rfl) rfl ?_
  refine bnSE h (fun p9 e_p9 h => ?_) (fun p8 e_p8 h => ?_)
  · refine gL_weak (ls' := [(0, .ref c0), (1, V a1), (2, V 1)]) (sbc 1 rfl (sbc 2 rfl (sbc 0 rfl sbn))) ?_
    refine tl_Searches_layFirst_2 hc0 ha1 (fun _ e => slr e) (fun p e => ?_) FU 1 e_p9 (inRk rfl)
    have e := Sum.inl.inj e
    subst e
    exact (by obtain rfl := Option.some.inj h; exact ⟨rfl, rfl⟩)
  · refine gL_weak (ls' := [(0, .ref c0), (1, V a1), (2, V 1)]) (sbc 1 rfl (sbc 2 rfl (sbc 0 rfl sbn))) ?_
    refine tl_Searches_layFirst_2 hc0 ha1 (fun p e => ?_) (fun _ e => srl e) FU 1 e_p8 (inRk rfl)
    have e := Sum.inr.inj e
    subst e
    refine vg_iconst (pc := 53) (dK D_Searches_layFirst 27 rfl) ?_
    exact vg_iretB (pc := 54) (b := false) (dK D_Searches_layFirst 28 rfl) rfl (leK rfl) (leK rfl) (fun _ => rfl) (by obtain rfl := Option.some.inj h; exact ⟨rfl, rfl⟩)
def lb_Searches_layFreeStories_12 (c0 : Nat) (a2 : Int) (go : Int × Int × St → Option (Int × St)) (a1 : Int) (a3 : Int) (S : St) : Option (Int × St) := if (g S (tgt (tgt c0 1) 1) 5) ≤ a3 then (some (a1, S)) else (if 0 ≤ a3 ∧ a3 < 10 then (if (g S (tgt (tgt (tgt c0 1) 1) 0) a3.toNat) = a2 then (if (g S (tgt (tgt (tgt c0 1) 1) 4) a3.toNat) = 0 then (bnO (fn_Searches_layFirst c0 a3 S) fun p4 => if p4.1 = true then (nm (wr (a1 + 1)) fun v7 => nm (wr (a3 + 1)) fun v8 => go (v7, v8, p4.2)) else (nm (wr (a3 + 1)) fun v6 => go (a1, v6, p4.2))) else (nm (wr (a3 + 1)) fun v3 => go (a1, v3, S))) else (nm (wr (a3 + 1)) fun v2 => go (a1, v2, S))) else none)
def lo_Searches_layFreeStories_12 (c0 : Nat) (a2 : Int) : Nat → Int × Int × St → Option (Int × St) := lp fun go p => lb_Searches_layFreeStories_12 c0 a2 go p.1 p.2.1 p.2.2
theorem tl_Searches_layFreeStories_12 {E : EV} {X : XT} {c0 : Nat} (hc0 : HC X 6 c0) {a2 : Int} (ha2 : inR a2) {K : RK → PS → Prop} {q : Int × St} (hx : inR q.1 → Go E M_Searches_layFreeStories 0 0 74 [(0, .ref c0), (1, V q.1), (2, V a2)] [] (WX X q.2) 0 0 K) : ∀ n a, lo_Searches_layFreeStories_12 c0 a2 n a = some q → inR a.1 → inR a.2.1 → Go E M_Searches_layFreeStories 0 0 12 [(0, .ref c0), (1, V a.1), (2, V a2), (3, V a.2.1)] [] (WX X a.2.2) 0 0 K := by
  refine lp_ind (P := fun a : Int × Int × St => inR a.1 → inR a.2.1 → Go E M_Searches_layFreeStories 0 0 12 [(0, .ref c0), (1, V a.1), (2, V a2), (3, V a.2.1)] [] (WX X a.2.2) 0 0 K) (fun go ih a h => ?_)
  obtain ⟨a1, a3, S⟩ := a
  intro ha1 ha3
  show Go E M_Searches_layFreeStories 0 0 12 [(0, .ref c0), (1, V a1), (2, V a2), (3, V a3)] [] (WX X S) 0 0 K
  replace h : lb_Searches_layFreeStories_12 c0 a2 go a1 a3 S = some q := h
  unfold lb_Searches_layFreeStories_12 at h
  refine g_iloadn (pc := 12) (i0 := 3) (j := 3) (dK D_Searches_layFreeStories 9 rfl) rfl rfl ?_
  refine g_aloadn (pc := 13) (i0 := 0) (j := 0) (dK D_Searches_layFreeStories 10 rfl) rfl rfl ?_
  refine vg_getO (pc := 14) (ci := 6) (f := 1) (dK D_Searches_layFreeStories 11 rfl) q_381 hc0 (ltK rfl) (ltK rfl) rfl ?_
  refine vg_getO (pc := 17) (ci := 8) (f := 1) (dK D_Searches_layFreeStories 12 rfl) q_238 (hw_6_1 hc0) (ltK rfl) (ltK rfl) rfl ?_
  refine vg_getI (pc := 20) (ci := 9) (f := 5) (dK D_Searches_layFreeStories 13 rfl) q_166 (hw_8_1 (hw_6_1 hc0)) (ltK rfl) (ltK rfl) rfl ?_
  refine vg_icmp_ge (pc := 23) (t := 74) (dK D_Searches_layFreeStories 14 rfl) rfl ha3 (g_in _ _ _) (fun hc11 => ?_) (fun hc11 => ?_)
  · replace h := ifP h hc11
    obtain rfl := Option.some.inj h
    refine gL_weak (ls' := [(0, .ref c0), (1, V a1), (2, V a2)]) (sbc 0 rfl (sbc 1 rfl (sbc 2 rfl sbn))) ?_
    exact hx ha1
  · replace h := ifN h hc11
    refine g_aloadn (pc := 26) (i0 := 0) (j := 0) (dK D_Searches_layFreeStories 15 rfl) rfl rfl ?_
    refine vg_getO (pc := 27) (ci := 6) (f := 1) (dK D_Searches_layFreeStories 16 rfl) q_381 hc0 (ltK rfl) (ltK rfl) rfl ?_
    refine vg_getO (pc := 30) (ci := 8) (f := 1) (dK D_Searches_layFreeStories 17 rfl) q_238 (hw_6_1 hc0) (ltK rfl) (ltK rfl) rfl ?_
    refine vg_getA (pc := 33) (ci := 9) (f := 0) (dK D_Searches_layFreeStories 18 rfl) q_145 (hw_8_1 (hw_6_1 hc0)) (ltK rfl) (ltK rfl) rfl ?_
    refine g_iloadn (pc := 36) (i0 := 3) (j := 3) (dK D_Searches_layFreeStories 19 rfl) rfl rfl ?_
    refine gdE h (fun hi1 h => ?_)
    refine vg_iaload (pc := 37) (j := a3.toNat) (dK D_Searches_layFreeStories 20 rfl) (hw_9_0 (hw_8_1 (hw_6_1 hc0))) rfl hi1 rfl ?_
    refine g_iloadn (pc := 38) (i0 := 2) (j := 2) (dK D_Searches_layFreeStories 21 rfl) rfl rfl ?_
    refine vg_icmp_ne (pc := 39) (t := 68) (dK D_Searches_layFreeStories 22 rfl) rfl (g_in _ _ _) ha2 (fun hc10 => ?_) (fun hc10 => ?_)
    · replace h := ifN h hc10
      refine nmE h (fun v2 e_v2 h => ?_)
      refine vg_iinc (pc := 68) (j := 3) (a := a3) (z := 1) (ls2 := [(3, V v2), (0, .ref c0), (1, V a1), (2, V a2)]) (dK D_Searches_layFreeStories 35 rfl) rfl e_v2 (ltK rfl) rfl ?_
      refine g_goto (pc := 71) (tgt := 12) (dK D_Searches_layFreeStories 36 rfl) rfl ?_
      refine gL_weak (ls' := [(0, .ref c0), (1, V a1), (2, V a2), (3, V v2)]) (sbc 1 rfl (sbc 2 rfl (sbc 3 rfl (sbc 0 rfl sbn)))) ?_
      replace h := ih _ h
      exact h ha1 (Vn_in e_v2)
    · replace h := ifP h hc10
      refine g_aloadn (pc := 42) (i0 := 0) (j := 0) (dK D_Searches_layFreeStories 23 rfl) rfl rfl ?_
      refine vg_getO (pc := 43) (ci := 6) (f := 1) (dK D_Searches_layFreeStories 24 rfl) q_381 hc0 (ltK rfl) (ltK rfl) rfl ?_
      refine vg_getO (pc := 46) (ci := 8) (f := 1) (dK D_Searches_layFreeStories 25 rfl) q_238 (hw_6_1 hc0) (ltK rfl) (ltK rfl) rfl ?_
      refine vg_getA (pc := 49) (ci := 9) (f := 4) (dK D_Searches_layFreeStories 26 rfl) q_160 (hw_8_1 (hw_6_1 hc0)) (ltK rfl) (ltK rfl) rfl ?_
      refine g_iloadn (pc := 52) (i0 := 3) (j := 3) (dK D_Searches_layFreeStories 27 rfl) rfl rfl ?_
      refine vg_iaload (pc := 53) (j := a3.toNat) (dK D_Searches_layFreeStories 28 rfl) (hw_9_4 (hw_8_1 (hw_6_1 hc0))) rfl hi1 rfl ?_
      refine vg_if_ne (pc := 54) (t := 68) (dK D_Searches_layFreeStories 29 rfl) rfl (g_in _ _ _) (fun hc9 => ?_) (fun hc9 => ?_)
      · replace h := ifN h hc9
        refine nmE h (fun v3 e_v3 h => ?_)
        refine vg_iinc (pc := 68) (j := 3) (a := a3) (z := 1) (ls2 := [(3, V v3), (0, .ref c0), (1, V a1), (2, V a2)]) (dK D_Searches_layFreeStories 35 rfl) rfl e_v3 (ltK rfl) rfl ?_
        refine g_goto (pc := 71) (tgt := 12) (dK D_Searches_layFreeStories 36 rfl) rfl ?_
        refine gL_weak (ls' := [(0, .ref c0), (1, V a1), (2, V a2), (3, V v3)]) (sbc 1 rfl (sbc 2 rfl (sbc 3 rfl (sbc 0 rfl sbn)))) ?_
        replace h := ih _ h
        exact h ha1 (Vn_in e_v3)
      · replace h := ifP h hc9
        refine g_aloadn (pc := 57) (i0 := 0) (j := 0) (dK D_Searches_layFreeStories 30 rfl) rfl rfl ?_
        refine g_iloadn (pc := 58) (i0 := 3) (j := 3) (dK D_Searches_layFreeStories 31 rfl) rfl rfl ?_
        refine bnE h (fun p4 e_p4 h => ?_)
        refine vg_cV (pc := 59) (As := [V a3]) (rest := []) (mc' := 0) (ms' := 0) (dK D_Searches_layFreeStories 32 rfl) K_Searches_95 (fitK rfl) (ltK rfl) hc0 rfl (leK rfl) (leK rfl) (leK rfl) (tf_Searches_layFirst hc0 ha3 e_p4) (kcB ?_)
        refine vg_ifB_eq (pc := 62) (b := p4.1) (t := 68) (dK D_Searches_layFreeStories 33 rfl) rfl (fun hc5 => ?_) (fun hc5 => ?_)
        · replace h := ifP h hc5
          refine nmE h (fun v7 e_v7 h => ?_)
          refine vg_iinc (pc := 65) (j := 1) (a := a1) (z := 1) (ls2 := [(1, V v7), (0, .ref c0), (2, V a2), (3, V a3)]) (dK D_Searches_layFreeStories 34 rfl) rfl e_v7 (ltK rfl) rfl ?_
          refine nmE h (fun v8 e_v8 h => ?_)
          refine vg_iinc (pc := 68) (j := 3) (a := a3) (z := 1) (ls2 := [(3, V v8), (1, V v7), (0, .ref c0), (2, V a2)]) (dK D_Searches_layFreeStories 35 rfl) rfl e_v8 (ltK rfl) rfl ?_
          refine g_goto (pc := 71) (tgt := 12) (dK D_Searches_layFreeStories 36 rfl) rfl ?_
          refine gL_weak (ls' := [(0, .ref c0), (1, V v7), (2, V a2), (3, V v8)]) (sbc 2 rfl (sbc 1 rfl (sbc 3 rfl (sbc 0 rfl sbn)))) ?_
          replace h := ih _ h
          exact h (Vn_in e_v7) (Vn_in e_v8)
        · replace h := ifN h hc5
          refine nmE h (fun v6 e_v6 h => ?_)
          refine vg_iinc (pc := 68) (j := 3) (a := a3) (z := 1) (ls2 := [(3, V v6), (0, .ref c0), (1, V a1), (2, V a2)]) (dK D_Searches_layFreeStories 35 rfl) rfl e_v6 (ltK rfl) rfl ?_
          refine g_goto (pc := 71) (tgt := 12) (dK D_Searches_layFreeStories 36 rfl) rfl ?_
          refine gL_weak (ls' := [(0, .ref c0), (1, V a1), (2, V a2), (3, V v6)]) (sbc 1 rfl (sbc 2 rfl (sbc 3 rfl (sbc 0 rfl sbn)))) ?_
          replace h := ih _ h
          exact h ha1 (Vn_in e_v6)
def lb_Searches_layFreeStories_5 (c0 : Nat) (go : Int × Int × St → Option (Int × St)) (a1 : Int) (a2 : Int) (S : St) : Option (Int × St) := if a2 < 1 then (some (a1, S)) else (bnO (lo_Searches_layFreeStories_12 c0 a2 FU (a1, 0, S)) fun p12 => nm (wr (a2 + (-1))) fun v13 => go (p12.1, v13, p12.2))
def lo_Searches_layFreeStories_5 (c0 : Nat) : Nat → Int × Int × St → Option (Int × St) := lp fun go p => lb_Searches_layFreeStories_5 c0 go p.1 p.2.1 p.2.2
theorem tl_Searches_layFreeStories_5 {E : EV} {X : XT} {c0 : Nat} (hc0 : HC X 6 c0) {K : RK → PS → Prop} {q : Int × St} (hx : inR q.1 → Go E M_Searches_layFreeStories 0 0 80 [(1, V q.1)] [] (WX X q.2) 0 0 K) : ∀ n a, lo_Searches_layFreeStories_5 c0 n a = some q → inR a.1 → inR a.2.1 → Go E M_Searches_layFreeStories 0 0 5 [(0, .ref c0), (1, V a.1), (2, V a.2.1)] [] (WX X a.2.2) 0 0 K := by
  refine lp_ind (P := fun a : Int × Int × St => inR a.1 → inR a.2.1 → Go E M_Searches_layFreeStories 0 0 5 [(0, .ref c0), (1, V a.1), (2, V a.2.1)] [] (WX X a.2.2) 0 0 K) (fun go ih a h => ?_)
  obtain ⟨a1, a2, S⟩ := a
  intro ha1 ha2
  show Go E M_Searches_layFreeStories 0 0 5 [(0, .ref c0), (1, V a1), (2, V a2)] [] (WX X S) 0 0 K
  replace h : lb_Searches_layFreeStories_5 c0 go a1 a2 S = some q := h
  unfold lb_Searches_layFreeStories_5 at h
  refine g_iloadn (pc := 5) (i0 := 2) (j := 2) (dK D_Searches_layFreeStories 4 rfl) rfl rfl ?_
  refine vg_iconst (pc := 6) (dK D_Searches_layFreeStories 5 rfl) ?_
  refine vg_icmp_lt (pc := 7) (t := 80) (dK D_Searches_layFreeStories 6 rfl) rfl ha2 (inRk rfl) (fun hc14 => ?_) (fun hc14 => ?_)
  · replace h := ifP h hc14
    obtain rfl := Option.some.inj h
    refine gL_weak (ls' := [(1, V a1)]) (sbc 1 rfl sbn) ?_
    exact hx ha1
  · replace h := ifN h hc14
    refine vg_iconst (pc := 10) (dK D_Searches_layFreeStories 7 rfl) ?_
    refine g_istoren (pc := 11) (i0 := 3) (ls2 := [(3, V 0), (0, .ref c0), (1, V a1), (2, V a2)]) (dK D_Searches_layFreeStories 8 rfl) rfl (ltK rfl) rfl ?_
    refine bnE h (fun p12 e_p12 h => ?_)
    refine gL_weak (ls' := [(0, .ref c0), (1, V a1), (2, V a2), (3, V 0)]) (sbc 1 rfl (sbc 2 rfl (sbc 3 rfl (sbc 0 rfl sbn)))) ?_
    refine tl_Searches_layFreeStories_12 hc0 ha2 (fun hx1_p12 => ?_) FU (a1, 0, S) e_p12 ha1 (inRk rfl)
    refine nmE h (fun v13 e_v13 h => ?_)
    refine vg_iinc (pc := 74) (j := 2) (a := a2) (z := -1) (ls2 := [(2, V v13), (0, .ref c0), (1, V p12.1)]) (dK D_Searches_layFreeStories 37 rfl) rfl e_v13 (ltK rfl) rfl ?_
    refine g_goto (pc := 77) (tgt := 5) (dK D_Searches_layFreeStories 38 rfl) rfl ?_
    refine gL_weak (ls' := [(0, .ref c0), (1, V p12.1), (2, V v13)]) (sbc 1 rfl (sbc 2 rfl (sbc 0 rfl sbn))) ?_
    replace h := ih _ h
    exact h hx1_p12 (Vn_in e_v13)
def fn_Searches_layFreeStories (c0 : Nat) (S : St) : Option (Int × St) := bnO (lo_Searches_layFreeStories_5 c0 FU (0, 8, S)) fun p15 => some (p15.1, p15.2)
theorem tf_Searches_layFreeStories {E : EV} {X : XT} {c0 : Nat} (hc0 : HC X 6 c0) {S : St} {q : Int × St} (h : fn_Searches_layFreeStories c0 S = some q) : Ev E M_Searches_layFreeStories [.ref c0] (WX X S) 0 0 (KI X q.1 q.2) := by
  refine Ev.of pn_Searches rfl (leK rfl) ?_
  show Go E M_Searches_layFreeStories 0 0 0 [(0, .ref c0)] [] (WX X S) 0 0 (KI X q.1 q.2)
  unfold fn_Searches_layFreeStories at h
  refine vg_iconst (pc := 0) (dK D_Searches_layFreeStories 0 rfl) ?_
  refine g_istoren (pc := 1) (i0 := 1) (ls2 := [(1, V 0), (0, .ref c0)]) (dK D_Searches_layFreeStories 1 rfl) rfl (ltK rfl) rfl ?_
  refine vg_bipush (pc := 2) (dK D_Searches_layFreeStories 2 rfl) rfl ?_
  refine g_istoren (pc := 4) (i0 := 2) (ls2 := [(2, V 8), (1, V 0), (0, .ref c0)]) (dK D_Searches_layFreeStories 3 rfl) rfl (ltK rfl) rfl ?_
  refine bnE h (fun p15 e_p15 h => ?_)
  refine gL_weak (ls' := [(0, .ref c0), (1, V 0), (2, V 8)]) (sbc 2 rfl (sbc 1 rfl (sbc 0 rfl sbn))) ?_
  refine tl_Searches_layFreeStories_5 hc0 (fun hx1_p15 => ?_) FU (0, 8, S) e_p15 (inRk rfl) (inRk rfl)
  refine g_iloadn (pc := 80) (i0 := 1) (j := 0) (dK D_Searches_layFreeStories 39 rfl) rfl rfl ?_
  exact vg_iretI (pc := 81) (r := p15.1) (dK D_Searches_layFreeStories 40 rfl) rfl (leK rfl) (leK rfl) (fun _ => rfl) (by obtain rfl := Option.some.inj h; exact ⟨rfl, hx1_p15, rfl⟩)
def fn_FP_layStories (c0 : Nat) (S : St) : Option (Int × St) := bnO (fn_History_keep (tgt c0 4) (tgt (tgt c0 3) 0) S) fun p1 => bnO (fn_Searches_layFreeStories (tgt c0 2) p1) fun p2 => some (p2.1, p2.2)
theorem tf_FP_layStories {E : EV} {X : XT} {c0 : Nat} (hc0 : HC X 10 c0) {S : St} {q : Int × St} (h : fn_FP_layStories c0 S = some q) : Ev E M_FP_layStories [.ref c0] (WX X S) 0 0 (KI X q.1 q.2) := by
  refine Ev.of pn_FP rfl (leK rfl) ?_
  show Go E M_FP_layStories 0 0 0 [(0, .ref c0)] [] (WX X S) 0 0 (KI X q.1 q.2)
  unfold fn_FP_layStories at h
  refine g_aloadn (pc := 0) (i0 := 0) (j := 0) (dK D_FP_layStories 0 rfl) rfl rfl ?_
  refine vg_getO (pc := 1) (ci := 10) (f := 4) (dK D_FP_layStories 1 rfl) q_437 hc0 (ltK rfl) (ltK rfl) rfl ?_
  refine g_aloadn (pc := 4) (i0 := 0) (j := 0) (dK D_FP_layStories 2 rfl) rfl rfl ?_
  refine vg_getO (pc := 5) (ci := 10) (f := 3) (dK D_FP_layStories 3 rfl) q_436 hc0 (ltK rfl) (ltK rfl) rfl ?_
  refine vg_getO (pc := 8) (ci := 4) (f := 0) (dK D_FP_layStories 4 rfl) q_303 (hw_10_3 hc0) (ltK rfl) (ltK rfl) rfl ?_
  refine bnE h (fun p1 e_p1 h => ?_)
  refine vg_cV (pc := 11) (As := [.ref (tgt (tgt c0 3) 0)]) (rest := []) (mc' := 0) (ms' := 0) (dK D_FP_layStories 5 rfl) K_FP_155 (fitK rfl) (ltK rfl) (hw_10_4 hc0) rfl (leK rfl) (leK rfl) (leK rfl) (tf_History_keep (hw_10_4 hc0) (hw_4_0 (hw_10_3 hc0)) e_p1) (kcU ?_)
  refine g_aloadn (pc := 14) (i0 := 0) (j := 0) (dK D_FP_layStories 6 rfl) rfl rfl ?_
  refine vg_getO (pc := 15) (ci := 10) (f := 2) (dK D_FP_layStories 7 rfl) q_435 hc0 (ltK rfl) (ltK rfl) rfl ?_
  refine bnE h (fun p2 e_p2 h => ?_)
  refine vg_cV (pc := 18) (As := []) (rest := []) (mc' := 0) (ms' := 0) (dK D_FP_layStories 8 rfl) K_FP_283 (fitK rfl) (ltK rfl) (hw_10_2 hc0) rfl (leK rfl) (leK rfl) (leK rfl) (tf_Searches_layFreeStories (hw_10_2 hc0) e_p2) (kcI (fun h_p2 => ?_))
  exact vg_iretI (pc := 21) (r := p2.1) (dK D_FP_layStories 9 rfl) rfl (leK rfl) (leK rfl) (fun _ => rfl) (by obtain rfl := Option.some.inj h; exact ⟨rfl, h_p2, rfl⟩)
def fn_FP_isPrice (a0 : Int) (S : St) : Option (Bool) := if a0 < 1 then (some false) else (if 999 < a0 then (some false) else (some true))
theorem tf_FP_isPrice {E : EV} {X : XT} {a0 : Int} (ha0 : inR a0) {S : St} {q : Bool} (h : fn_FP_isPrice a0 S = some q) : Ev E M_FP_isPrice [V a0] (WX X S) 0 0 (KB X q S) := by
  refine Ev.of pn_FP rfl (leK rfl) ?_
  show Go E M_FP_isPrice 0 0 0 [(0, V a0)] [] (WX X S) 0 0 (KB X q S)
  unfold fn_FP_isPrice at h
  refine g_iloadn (pc := 0) (i0 := 0) (j := 0) (dK D_FP_isPrice 0 rfl) rfl rfl ?_
  refine vg_iconst (pc := 1) (dK D_FP_isPrice 1 rfl) ?_
  refine vg_icmp_lt (pc := 2) (t := 16) (dK D_FP_isPrice 2 rfl) rfl ha0 (inRk rfl) (fun hc2 => ?_) (fun hc2 => ?_)
  · replace h := ifP h hc2
    refine vg_iconst (pc := 16) (dK D_FP_isPrice 8 rfl) ?_
    exact vg_iretB (pc := 17) (b := false) (dK D_FP_isPrice 9 rfl) rfl (leK rfl) (leK rfl) (fun _ => rfl) (by obtain rfl := Option.some.inj h; exact ⟨rfl, rfl⟩)
  · replace h := ifN h hc2
    refine g_iloadn (pc := 5) (i0 := 0) (j := 0) (dK D_FP_isPrice 3 rfl) rfl rfl ?_
    refine vg_sipush (pc := 6) (dK D_FP_isPrice 4 rfl) rfl ?_
    refine vg_icmp_gt (pc := 9) (t := 16) (dK D_FP_isPrice 5 rfl) rfl ha0 (inRk rfl) (fun hc1 => ?_) (fun hc1 => ?_)
    · replace h := ifP h hc1
      refine vg_iconst (pc := 16) (dK D_FP_isPrice 8 rfl) ?_
      exact vg_iretB (pc := 17) (b := false) (dK D_FP_isPrice 9 rfl) rfl (leK rfl) (leK rfl) (fun _ => rfl) (by obtain rfl := Option.some.inj h; exact ⟨rfl, rfl⟩)
    · replace h := ifN h hc1
      refine vg_iconst (pc := 12) (dK D_FP_isPrice 6 rfl) ?_
      refine g_goto (pc := 13) (tgt := 17) (dK D_FP_isPrice 7 rfl) rfl ?_
      exact vg_iretB (pc := 17) (b := true) (dK D_FP_isPrice 9 rfl) rfl (leK rfl) (leK rfl) (fun _ => rfl) (by obtain rfl := Option.some.inj h; exact ⟨rfl, rfl⟩)
def fn_FP_addAd (c0 : Nat) (a1 : Int) (a2 : Int) (a3 : Int) (a4 : Int) (S : St) : Option (Nat × Int × St) := bnO (fn_FP_isSize a1 S) fun p1 => if p1 = true then (if a2 < 0 then (some (2, 0, S)) else (if 10 ≤ a2 then (some (2, 0, S)) else (bnO (fn_FP_isPrice a3 S) fun p3 => if p3 = true then (if a4 < 0 then (some (2, 0, S)) else (if a4 ≤ 9999 then (if (g S (tgt (tgt (tgt c0 3) 0) 0) 7) < 40 then (bnO (fn_History_keep (tgt c0 4) (tgt (tgt c0 3) 0) S) fun p5 => bnO (fn_Ads_add (tgt (tgt (tgt c0 3) 0) 0) a1 a2 a3 a4 p5) fun p6 => some (0, p6.1, p6.2)) else (some (0, (-2), S))) else (some (2, 0, S)))) else (some (2, 0, S))))) else (some (2, 0, S))
theorem tf_FP_addAd {E : EV} {X : XT} (hfl : X.2.2.2 = false) {c0 : Nat} (hc0 : HC X 10 c0) {a1 : Int} (ha1 : inR a1) {a2 : Int} (ha2 : inR a2) {a3 : Int} (ha3 : inR a3) {a4 : Int} (ha4 : inR a4) {S : St} {q : Nat × Int × St} (h : fn_FP_addAd c0 a1 a2 a3 a4 S = some q) : Ev E M_FP_addAd [.ref c0, V a1, V a2, V a3, V a4] (WX X S) 1 6 (KT X q.1 q.2.2 (KI X q.2.1 q.2.2)) := by
  refine Ev.of pn_FP rfl (leK rfl) ?_
  show Go E M_FP_addAd 1 6 0 [(0, .ref c0), (1, V a1), (2, V a2), (3, V a3), (4, V a4)] [] (WX X S) 0 0 (KT X q.1 q.2.2 (KI X q.2.1 q.2.2))
  unfold fn_FP_addAd at h
  refine g_iloadn (pc := 0) (i0 := 1) (j := 1) (dK D_FP_addAd 0 rfl) rfl rfl ?_
  refine bnE h (fun p1 e_p1 h => ?_)
  refine vg_cS (pc := 1) (As := [V a1]) (rest := []) (mc' := 0) (ms' := 0) (dK D_FP_addAd 1 rfl) K_FP_141 (fitK rfl) rfl (leK rfl) (leK rfl) (leK rfl) (tf_FP_isSize ha1 e_p1) (kcB ?_)
  refine vg_ifB_eq (pc := 4) (b := p1) (t := 37) (dK D_FP_addAd 2 rfl) rfl (fun hc2 => ?_) (fun hc2 => ?_)
  · replace h := ifP h hc2
    refine g_iloadn (pc := 7) (i0 := 2) (j := 2) (dK D_FP_addAd 3 rfl) rfl rfl ?_
    refine vg_if_lt (pc := 8) (t := 37) (dK D_FP_addAd 4 rfl) rfl ha2 (fun hc11 => ?_) (fun hc11 => ?_)
    · replace h := ifP h hc11
      exact vg_throw hfl (pc := 37) TH_FP_148_150 (dK D_FP_addAd 16 rfl) (dK D_FP_addAd 17 rfl) (dK D_FP_addAd 18 rfl) (dK D_FP_addAd 19 rfl) (dK D_FP_addAd 20 rfl) rfl (leK rfl) (leK rfl) (leK rfl) (leK rfl) (leK rfl) (by obtain rfl := Option.some.inj h; exact KT_thr (e := 2) (by decide))
    · replace h := ifN h hc11
      refine g_iloadn (pc := 11) (i0 := 2) (j := 2) (dK D_FP_addAd 5 rfl) rfl rfl ?_
      refine vg_bipush (pc := 12) (dK D_FP_addAd 6 rfl) rfl ?_
      refine vg_icmp_ge (pc := 14) (t := 37) (dK D_FP_addAd 7 rfl) rfl ha2 (inRk rfl) (fun hc10 => ?_) (fun hc10 => ?_)
      · replace h := ifP h hc10
        exact vg_throw hfl (pc := 37) TH_FP_148_150 (dK D_FP_addAd 16 rfl) (dK D_FP_addAd 17 rfl) (dK D_FP_addAd 18 rfl) (dK D_FP_addAd 19 rfl) (dK D_FP_addAd 20 rfl) rfl (leK rfl) (leK rfl) (leK rfl) (leK rfl) (leK rfl) (by obtain rfl := Option.some.inj h; exact KT_thr (e := 2) (by decide))
      · replace h := ifN h hc10
        refine g_iloadn (pc := 17) (i0 := 3) (j := 3) (dK D_FP_addAd 8 rfl) rfl rfl ?_
        refine bnE h (fun p3 e_p3 h => ?_)
        refine vg_cS (pc := 18) (As := [V a3]) (rest := []) (mc' := 0) (ms' := 0) (dK D_FP_addAd 9 rfl) K_FP_145 (fitK rfl) rfl (leK rfl) (leK rfl) (leK rfl) (tf_FP_isPrice ha3 e_p3) (kcB ?_)
        refine vg_ifB_eq (pc := 21) (b := p3) (t := 37) (dK D_FP_addAd 10 rfl) rfl (fun hc4 => ?_) (fun hc4 => ?_)
        · replace h := ifP h hc4
          refine g_iload (pc := 24) (j := 4) (dK D_FP_addAd 11 rfl) rfl ?_
          refine vg_if_lt (pc := 26) (t := 37) (dK D_FP_addAd 12 rfl) rfl ha4 (fun hc9 => ?_) (fun hc9 => ?_)
          · replace h := ifP h hc9
            exact vg_throw hfl (pc := 37) TH_FP_148_150 (dK D_FP_addAd 16 rfl) (dK D_FP_addAd 17 rfl) (dK D_FP_addAd 18 rfl) (dK D_FP_addAd 19 rfl) (dK D_FP_addAd 20 rfl) rfl (leK rfl) (leK rfl) (leK rfl) (leK rfl) (leK rfl) (by obtain rfl := Option.some.inj h; exact KT_thr (e := 2) (by decide))
          · replace h := ifN h hc9
            refine g_iload (pc := 29) (j := 4) (dK D_FP_addAd 13 rfl) rfl ?_
            refine vg_sipush (pc := 31) (dK D_FP_addAd 14 rfl) rfl ?_
            refine vg_icmp_le (pc := 34) (t := 47) (dK D_FP_addAd 15 rfl) rfl ha4 (inRk rfl) (fun hc8 => ?_) (fun hc8 => ?_)
            · replace h := ifP h hc8
              refine g_aloadn (pc := 47) (i0 := 0) (j := 0) (dK D_FP_addAd 21 rfl) rfl rfl ?_
              refine vg_getO (pc := 48) (ci := 10) (f := 3) (dK D_FP_addAd 22 rfl) q_436 hc0 (ltK rfl) (ltK rfl) rfl ?_
              refine vg_getO (pc := 51) (ci := 4) (f := 0) (dK D_FP_addAd 23 rfl) q_303 (hw_10_3 hc0) (ltK rfl) (ltK rfl) rfl ?_
              refine vg_getO (pc := 54) (ci := 8) (f := 0) (dK D_FP_addAd 24 rfl) q_235 (hw_4_0 (hw_10_3 hc0)) (ltK rfl) (ltK rfl) rfl ?_
              refine g_astore (pc := 57) (ls2 := [(5, .ref (tgt (tgt (tgt c0 3) 0) 0)), (0, .ref c0), (1, V a1), (2, V a2), (3, V a3), (4, V a4)]) (dK D_FP_addAd 25 rfl) (ltK rfl) rfl ?_
              refine g_aload (pc := 59) (j := 0) (dK D_FP_addAd 26 rfl) rfl ?_
              refine vg_getI (pc := 61) (ci := 0) (f := 7) (dK D_FP_addAd 27 rfl) q_120 (hw_8_0 (hw_4_0 (hw_10_3 hc0))) (ltK rfl) (ltK rfl) rfl ?_
              refine vg_bipush (pc := 64) (dK D_FP_addAd 28 rfl) rfl ?_
              refine vg_icmp_lt (pc := 66) (t := 72) (dK D_FP_addAd 29 rfl) rfl (g_in _ _ _) (inRk rfl) (fun hc7 => ?_) (fun hc7 => ?_)
              · replace h := ifP h hc7
                refine g_aloadn (pc := 72) (i0 := 0) (j := 1) (dK D_FP_addAd 32 rfl) rfl rfl ?_
                refine vg_getO (pc := 73) (ci := 10) (f := 4) (dK D_FP_addAd 33 rfl) q_437 hc0 (ltK rfl) (ltK rfl) rfl ?_
                refine g_aloadn (pc := 76) (i0 := 0) (j := 1) (dK D_FP_addAd 34 rfl) rfl rfl ?_
                refine vg_getO (pc := 77) (ci := 10) (f := 3) (dK D_FP_addAd 35 rfl) q_436 hc0 (ltK rfl) (ltK rfl) rfl ?_
                refine vg_getO (pc := 80) (ci := 4) (f := 0) (dK D_FP_addAd 36 rfl) q_303 (hw_10_3 hc0) (ltK rfl) (ltK rfl) rfl ?_
                refine bnE h (fun p5 e_p5 h => ?_)
                refine vg_cV (pc := 83) (As := [.ref (tgt (tgt c0 3) 0)]) (rest := []) (mc' := 0) (ms' := 0) (dK D_FP_addAd 37 rfl) K_FP_155 (fitK rfl) (ltK rfl) (hw_10_4 hc0) rfl (leK rfl) (leK rfl) (leK rfl) (tf_History_keep (hw_10_4 hc0) (hw_4_0 (hw_10_3 hc0)) e_p5) (kcU ?_)
                refine g_aload (pc := 86) (j := 0) (dK D_FP_addAd 38 rfl) rfl ?_
                refine g_iloadn (pc := 88) (i0 := 1) (j := 2) (dK D_FP_addAd 39 rfl) rfl rfl ?_
                refine g_iloadn (pc := 89) (i0 := 2) (j := 3) (dK D_FP_addAd 40 rfl) rfl rfl ?_
                refine g_iloadn (pc := 90) (i0 := 3) (j := 4) (dK D_FP_addAd 41 rfl) rfl rfl ?_
                refine g_iload (pc := 91) (j := 5) (dK D_FP_addAd 42 rfl) rfl ?_
                refine bnE h (fun p6 e_p6 h => ?_)
                refine vg_cV (pc := 93) (As := [V a1, V a2, V a3, V a4]) (rest := []) (mc' := 0) (ms' := 0) (dK D_FP_addAd 43 rfl) K_FP_158 (fitK rfl) (ltK rfl) (hw_8_0 (hw_4_0 (hw_10_3 hc0))) rfl (leK rfl) (leK rfl) (leK rfl) (tf_Ads_add (hw_8_0 (hw_4_0 (hw_10_3 hc0))) ha1 ha2 ha3 ha4 e_p6) (kcI (fun h_p6 => ?_))
                exact vg_iretI (pc := 96) (r := p6.1) (dK D_FP_addAd 44 rfl) rfl (leK rfl) (leK rfl) (xf hfl) (by obtain rfl := Option.some.inj h; exact KT_ok ⟨rfl, h_p6, rfl⟩)
              · replace h := ifN h hc7
                refine vg_bipush (pc := 69) (dK D_FP_addAd 30 rfl) rfl ?_
                exact vg_iretI (pc := 71) (r := (-2)) (dK D_FP_addAd 31 rfl) rfl (leK rfl) (leK rfl) (xf hfl) (by obtain rfl := Option.some.inj h; exact KT_ok ⟨rfl, (inRk rfl), rfl⟩)
            · replace h := ifN h hc8
              exact vg_throw hfl (pc := 37) TH_FP_148_150 (dK D_FP_addAd 16 rfl) (dK D_FP_addAd 17 rfl) (dK D_FP_addAd 18 rfl) (dK D_FP_addAd 19 rfl) (dK D_FP_addAd 20 rfl) rfl (leK rfl) (leK rfl) (leK rfl) (leK rfl) (leK rfl) (by obtain rfl := Option.some.inj h; exact KT_thr (e := 2) (by decide))
        · replace h := ifN h hc4
          exact vg_throw hfl (pc := 37) TH_FP_148_150 (dK D_FP_addAd 16 rfl) (dK D_FP_addAd 17 rfl) (dK D_FP_addAd 18 rfl) (dK D_FP_addAd 19 rfl) (dK D_FP_addAd 20 rfl) rfl (leK rfl) (leK rfl) (leK rfl) (leK rfl) (leK rfl) (by obtain rfl := Option.some.inj h; exact KT_thr (e := 2) (by decide))
  · replace h := ifN h hc2
    exact vg_throw hfl (pc := 37) TH_FP_148_150 (dK D_FP_addAd 16 rfl) (dK D_FP_addAd 17 rfl) (dK D_FP_addAd 18 rfl) (dK D_FP_addAd 19 rfl) (dK D_FP_addAd 20 rfl) rfl (leK rfl) (leK rfl) (leK rfl) (leK rfl) (leK rfl) (by obtain rfl := Option.some.inj h; exact KT_thr (e := 2) (by decide))
def fn_FP_setAd (c0 : Nat) (a1 : Int) (a2 : Int) (a3 : Int) (S : St) : Option (Nat × Bool × St) := bnO (fn_FP_needAd c0 a1 S) fun p1 => if p1 = 0 then (if a3 < 0 then (some (2, false, S)) else (if a3 ≤ 2 then (if 0 ≤ a1 ∧ a1 < 40 then (if (g S (tgt (tgt (tgt (tgt c0 3) 0) 0) 6) a1.toNat) = 0 then (bnO (fn_History_keep (tgt c0 4) (tgt (tgt c0 3) 0) S) fun p3 => if a2 = 0 then (nm (u p3 (tgt (tgt (tgt (tgt c0 3) 0) 0) 2) a1.toNat 0) fun S4 => nm (u S4 (tgt (tgt (tgt (tgt c0 3) 0) 0) 3) a1.toNat a3) fun S5 => some (0, true, S5)) else (nm (u p3 (tgt (tgt (tgt (tgt c0 3) 0) 0) 2) a1.toNat 1) fun S6 => nm (u S6 (tgt (tgt (tgt (tgt c0 3) 0) 0) 3) a1.toNat a3) fun S7 => some (0, true, S7))) else (some (0, false, S))) else none) else (some (2, false, S)))) else (some (p1, false, S))
theorem tf_FP_setAd {E : EV} {X : XT} (hfl : X.2.2.2 = false) {c0 : Nat} (hc0 : HC X 10 c0) {a1 : Int} (ha1 : inR a1) {a2 : Int} (ha2 : inR a2) {a3 : Int} (ha3 : inR a3) {S : St} {q : Nat × Bool × St} (h : fn_FP_setAd c0 a1 a2 a3 S = some q) : Ev E M_FP_setAd [.ref c0, V a1, V a2, V a3] (WX X S) 2 12 (KT X q.1 q.2.2 (KB X q.2.1 q.2.2)) := by
  refine Ev.of pn_FP rfl (leK rfl) ?_
  show Go E M_FP_setAd 2 12 0 [(0, .ref c0), (1, V a1), (2, V a2), (3, V a3)] [] (WX X S) 0 0 (KT X q.1 q.2.2 (KB X q.2.1 q.2.2))
  unfold fn_FP_setAd at h
  refine g_aloadn (pc := 0) (i0 := 0) (j := 0) (dK D_FP_setAd 0 rfl) rfl rfl ?_
  refine g_iloadn (pc := 1) (i0 := 1) (j := 1) (dK D_FP_setAd 1 rfl) rfl rfl ?_
  refine bnE h (fun p1 e_p1 h => ?_)
  refine vg_cV (pc := 2) (As := [V a1]) (rest := []) (mc' := 1) (ms' := 6) (dK D_FP_setAd 2 rfl) K_FP_162 (fitK rfl) (ltK rfl) hc0 rfl (leK rfl) (leK rfl) (leK rfl) (tf_FP_needAd hfl hc0 ha1 e_p1) (kcT hfl (fun he12 => kcU ?_) (fun he12 => ⟨rfl, ?_⟩))
  · replace h := ifP h he12
    refine g_iloadn (pc := 5) (i0 := 3) (j := 3) (dK D_FP_setAd 3 rfl) rfl rfl ?_
    refine vg_if_lt (pc := 6) (t := 14) (dK D_FP_setAd 4 rfl) rfl ha3 (fun hc11 => ?_) (fun hc11 => ?_)
    · replace h := ifP h hc11
      exact vg_throw hfl (pc := 14) TH_FP_148_165 (dK D_FP_setAd 8 rfl) (dK D_FP_setAd 9 rfl) (dK D_FP_setAd 10 rfl) (dK D_FP_setAd 11 rfl) (dK D_FP_setAd 12 rfl) rfl (leK rfl) (leK rfl) (leK rfl) (leK rfl) (leK rfl) (by obtain rfl := Option.some.inj h; exact KT_thr (e := 2) (by decide))
    · replace h := ifN h hc11
      refine g_iloadn (pc := 9) (i0 := 3) (j := 3) (dK D_FP_setAd 5 rfl) rfl rfl ?_
      refine vg_iconst (pc := 10) (dK D_FP_setAd 6 rfl) ?_
      refine vg_icmp_le (pc := 11) (t := 24) (dK D_FP_setAd 7 rfl) rfl ha3 (inRk rfl) (fun hc10 => ?_) (fun hc10 => ?_)
      · replace h := ifP h hc10
        refine g_aloadn (pc := 24) (i0 := 0) (j := 0) (dK D_FP_setAd 13 rfl) rfl rfl ?_
        refine vg_getO (pc := 25) (ci := 10) (f := 3) (dK D_FP_setAd 14 rfl) q_436 hc0 (ltK rfl) (ltK rfl) rfl ?_
        refine vg_getO (pc := 28) (ci := 4) (f := 0) (dK D_FP_setAd 15 rfl) q_303 (hw_10_3 hc0) (ltK rfl) (ltK rfl) rfl ?_
        refine vg_getO (pc := 31) (ci := 8) (f := 0) (dK D_FP_setAd 16 rfl) q_235 (hw_4_0 (hw_10_3 hc0)) (ltK rfl) (ltK rfl) rfl ?_
        refine g_astore (pc := 34) (ls2 := [(4, .ref (tgt (tgt (tgt c0 3) 0) 0)), (0, .ref c0), (1, V a1), (2, V a2), (3, V a3)]) (dK D_FP_setAd 17 rfl) (ltK rfl) rfl ?_
        refine g_aload (pc := 36) (j := 0) (dK D_FP_setAd 18 rfl) rfl ?_
        refine vg_getA (pc := 38) (ci := 0) (f := 6) (dK D_FP_setAd 19 rfl) q_114 (hw_8_0 (hw_4_0 (hw_10_3 hc0))) (ltK rfl) (ltK rfl) rfl ?_
        refine g_iloadn (pc := 41) (i0 := 1) (j := 2) (dK D_FP_setAd 20 rfl) rfl rfl ?_
        refine gdE h (fun hi2 h => ?_)
        refine vg_iaload (pc := 42) (j := a1.toNat) (dK D_FP_setAd 21 rfl) (hw_0_6 (hw_8_0 (hw_4_0 (hw_10_3 hc0)))) rfl hi2 rfl ?_
        refine vg_if_eq (pc := 43) (t := 48) (dK D_FP_setAd 22 rfl) rfl (g_in _ _ _) (fun hc9 => ?_) (fun hc9 => ?_)
        · replace h := ifP h hc9
          refine g_aloadn (pc := 48) (i0 := 0) (j := 1) (dK D_FP_setAd 25 rfl) rfl rfl ?_
          refine vg_getO (pc := 49) (ci := 10) (f := 4) (dK D_FP_setAd 26 rfl) q_437 hc0 (ltK rfl) (ltK rfl) rfl ?_
          refine g_aloadn (pc := 52) (i0 := 0) (j := 1) (dK D_FP_setAd 27 rfl) rfl rfl ?_
          refine vg_getO (pc := 53) (ci := 10) (f := 3) (dK D_FP_setAd 28 rfl) q_436 hc0 (ltK rfl) (ltK rfl) rfl ?_
          refine vg_getO (pc := 56) (ci := 4) (f := 0) (dK D_FP_setAd 29 rfl) q_303 (hw_10_3 hc0) (ltK rfl) (ltK rfl) rfl ?_
          refine bnE h (fun p3 e_p3 h => ?_)
          refine vg_cV (pc := 59) (As := [.ref (tgt (tgt c0 3) 0)]) (rest := []) (mc' := 0) (ms' := 0) (dK D_FP_setAd 30 rfl) K_FP_155 (fitK rfl) (ltK rfl) (hw_10_4 hc0) rfl (leK rfl) (leK rfl) (leK rfl) (tf_History_keep (hw_10_4 hc0) (hw_4_0 (hw_10_3 hc0)) e_p3) (kcU ?_)
          refine g_aload (pc := 62) (j := 0) (dK D_FP_setAd 31 rfl) rfl ?_
          refine vg_getA (pc := 64) (ci := 0) (f := 2) (dK D_FP_setAd 32 rfl) q_96 (hw_8_0 (hw_4_0 (hw_10_3 hc0))) (ltK rfl) (ltK rfl) rfl ?_
          refine g_iloadn (pc := 67) (i0 := 1) (j := 2) (dK D_FP_setAd 33 rfl) rfl rfl ?_
          refine g_iloadn (pc := 68) (i0 := 2) (j := 3) (dK D_FP_setAd 34 rfl) rfl rfl ?_
          refine vg_if_eq (pc := 69) (t := 76) (dK D_FP_setAd 35 rfl) rfl ha2 (fun hc8 => ?_) (fun hc8 => ?_)
          · replace h := ifP h hc8
            refine vg_iconst (pc := 76) (dK D_FP_setAd 38 rfl) ?_
            refine nmE h (fun S4 e_S4 h => ?_)
            refine vg_iastore (pc := 77) (z := 0) (dK D_FP_setAd 39 rfl) (hw_0_2 (hw_8_0 (hw_4_0 (hw_10_3 hc0)))) rfl hi2 rfl e_S4 ?_
            refine g_aload (pc := 78) (j := 0) (dK D_FP_setAd 40 rfl) rfl ?_
            refine vg_getA (pc := 80) (ci := 0) (f := 3) (dK D_FP_setAd 41 rfl) q_101 (hw_8_0 (hw_4_0 (hw_10_3 hc0))) (ltK rfl) (ltK rfl) rfl ?_
            refine g_iloadn (pc := 83) (i0 := 1) (j := 2) (dK D_FP_setAd 42 rfl) rfl rfl ?_
            refine g_iloadn (pc := 84) (i0 := 3) (j := 4) (dK D_FP_setAd 43 rfl) rfl rfl ?_
            refine nmE h (fun S5 e_S5 h => ?_)
            refine vg_iastore (pc := 85) (z := a3) (dK D_FP_setAd 44 rfl) (hw_0_3 (hw_8_0 (hw_4_0 (hw_10_3 hc0)))) rfl hi2 rfl e_S5 ?_
            refine vg_iconst (pc := 86) (dK D_FP_setAd 45 rfl) ?_
            exact vg_iretB (pc := 87) (b := true) (dK D_FP_setAd 46 rfl) rfl (leK rfl) (leK rfl) (xf hfl) (by obtain rfl := Option.some.inj h; exact KT_ok ⟨rfl, rfl⟩)
          · replace h := ifN h hc8
            refine vg_iconst (pc := 72) (dK D_FP_setAd 36 rfl) ?_
            refine g_goto (pc := 73) (tgt := 77) (dK D_FP_setAd 37 rfl) rfl ?_
            refine nmE h (fun S6 e_S6 h => ?_)
            refine vg_iastore (pc := 77) (z := 1) (dK D_FP_setAd 39 rfl) (hw_0_2 (hw_8_0 (hw_4_0 (hw_10_3 hc0)))) rfl hi2 rfl e_S6 ?_
            refine g_aload (pc := 78) (j := 0) (dK D_FP_setAd 40 rfl) rfl ?_
            refine vg_getA (pc := 80) (ci := 0) (f := 3) (dK D_FP_setAd 41 rfl) q_101 (hw_8_0 (hw_4_0 (hw_10_3 hc0))) (ltK rfl) (ltK rfl) rfl ?_
            refine g_iloadn (pc := 83) (i0 := 1) (j := 2) (dK D_FP_setAd 42 rfl) rfl rfl ?_
            refine g_iloadn (pc := 84) (i0 := 3) (j := 4) (dK D_FP_setAd 43 rfl) rfl rfl ?_
            refine nmE h (fun S7 e_S7 h => ?_)
            refine vg_iastore (pc := 85) (z := a3) (dK D_FP_setAd 44 rfl) (hw_0_3 (hw_8_0 (hw_4_0 (hw_10_3 hc0)))) rfl hi2 rfl e_S7 ?_
            refine vg_iconst (pc := 86) (dK D_FP_setAd 45 rfl) ?_
            exact vg_iretB (pc := 87) (b := true) (dK D_FP_setAd 46 rfl) rfl (leK rfl) (leK rfl) (xf hfl) (by obtain rfl := Option.some.inj h; exact KT_ok ⟨rfl, rfl⟩)
        · replace h := ifN h hc9
          refine vg_iconst (pc := 46) (dK D_FP_setAd 23 rfl) ?_
          exact vg_iretB (pc := 47) (b := false) (dK D_FP_setAd 24 rfl) rfl (leK rfl) (leK rfl) (xf hfl) (by obtain rfl := Option.some.inj h; exact KT_ok ⟨rfl, rfl⟩)
      · replace h := ifN h hc10
        exact vg_throw hfl (pc := 14) TH_FP_148_165 (dK D_FP_setAd 8 rfl) (dK D_FP_setAd 9 rfl) (dK D_FP_setAd 10 rfl) (dK D_FP_setAd 11 rfl) (dK D_FP_setAd 12 rfl) rfl (leK rfl) (leK rfl) (leK rfl) (leK rfl) (leK rfl) (by obtain rfl := Option.some.inj h; exact KT_thr (e := 2) (by decide))
  · replace h := ifN h he12
    obtain rfl := Option.some.inj h
    exact KT_thr he12
def fn_FP_setPrice (c0 : Nat) (a1 : Int) (a2 : Int) (S : St) : Option (Nat × Int × St) := bnO (fn_FP_needAd c0 a1 S) fun p1 => if p1 = 0 then (bnO (fn_FP_isPrice a2 S) fun p2 => if p2 = true then (bnO (fn_History_keep (tgt c0 4) (tgt (tgt c0 3) 0) S) fun p4 => if 0 ≤ a1 ∧ a1 < 40 then (nm (u p4 (tgt (tgt (tgt (tgt c0 3) 0) 0) 4) a1.toNat a2) fun S6 => some (0, (g p4 (tgt (tgt (tgt (tgt c0 3) 0) 0) 4) a1.toNat), S6)) else none) else (some (2, 0, S))) else (some (p1, 0, S))
theorem tf_FP_setPrice {E : EV} {X : XT} (hfl : X.2.2.2 = false) {c0 : Nat} (hc0 : HC X 10 c0) {a1 : Int} (ha1 : inR a1) {a2 : Int} (ha2 : inR a2) {S : St} {q : Nat × Int × St} (h : fn_FP_setPrice c0 a1 a2 S = some q) : Ev E M_FP_setPrice [.ref c0, V a1, V a2] (WX X S) 2 12 (KT X q.1 q.2.2 (KI X q.2.1 q.2.2)) := by
  refine Ev.of pn_FP rfl (leK rfl) ?_
  show Go E M_FP_setPrice 2 12 0 [(0, .ref c0), (1, V a1), (2, V a2)] [] (WX X S) 0 0 (KT X q.1 q.2.2 (KI X q.2.1 q.2.2))
  unfold fn_FP_setPrice at h
  refine g_aloadn (pc := 0) (i0 := 0) (j := 0) (dK D_FP_setPrice 0 rfl) rfl rfl ?_
  refine g_iloadn (pc := 1) (i0 := 1) (j := 1) (dK D_FP_setPrice 1 rfl) rfl rfl ?_
  refine bnE h (fun p1 e_p1 h => ?_)
  refine vg_cV (pc := 2) (As := [V a1]) (rest := []) (mc' := 1) (ms' := 6) (dK D_FP_setPrice 2 rfl) K_FP_162 (fitK rfl) (ltK rfl) hc0 rfl (leK rfl) (leK rfl) (leK rfl) (tf_FP_needAd hfl hc0 ha1 e_p1) (kcT hfl (fun he7 => kcU ?_) (fun he7 => ⟨rfl, ?_⟩))
  · replace h := ifP h he7
    refine g_iloadn (pc := 5) (i0 := 2) (j := 2) (dK D_FP_setPrice 3 rfl) rfl rfl ?_
    refine bnE h (fun p2 e_p2 h => ?_)
    refine vg_cS (pc := 6) (As := [V a2]) (rest := []) (mc' := 0) (ms' := 0) (dK D_FP_setPrice 4 rfl) K_FP_145 (fitK rfl) rfl (leK rfl) (leK rfl) (leK rfl) (tf_FP_isPrice ha2 e_p2) (kcB ?_)
    refine vg_ifB_ne (pc := 9) (b := p2) (t := 22) (dK D_FP_setPrice 5 rfl) rfl (fun hc3 => ?_) (fun hc3 => ?_)
    · replace h := ifP h hc3
      refine g_aloadn (pc := 22) (i0 := 0) (j := 0) (dK D_FP_setPrice 11 rfl) rfl rfl ?_
      refine vg_getO (pc := 23) (ci := 10) (f := 4) (dK D_FP_setPrice 12 rfl) q_437 hc0 (ltK rfl) (ltK rfl) rfl ?_
      refine g_aloadn (pc := 26) (i0 := 0) (j := 0) (dK D_FP_setPrice 13 rfl) rfl rfl ?_
      refine vg_getO (pc := 27) (ci := 10) (f := 3) (dK D_FP_setPrice 14 rfl) q_436 hc0 (ltK rfl) (ltK rfl) rfl ?_
      refine vg_getO (pc := 30) (ci := 4) (f := 0) (dK D_FP_setPrice 15 rfl) q_303 (hw_10_3 hc0) (ltK rfl) (ltK rfl) rfl ?_
      refine bnE h (fun p4 e_p4 h => ?_)
      refine vg_cV (pc := 33) (As := [.ref (tgt (tgt c0 3) 0)]) (rest := []) (mc' := 0) (ms' := 0) (dK D_FP_setPrice 16 rfl) K_FP_155 (fitK rfl) (ltK rfl) (hw_10_4 hc0) rfl (leK rfl) (leK rfl) (leK rfl) (tf_History_keep (hw_10_4 hc0) (hw_4_0 (hw_10_3 hc0)) e_p4) (kcU ?_)
      refine g_aloadn (pc := 36) (i0 := 0) (j := 0) (dK D_FP_setPrice 17 rfl) rfl rfl ?_
      refine vg_getO (pc := 37) (ci := 10) (f := 3) (dK D_FP_setPrice 18 rfl) q_436 hc0 (ltK rfl) (ltK rfl) rfl ?_
      refine vg_getO (pc := 40) (ci := 4) (f := 0) (dK D_FP_setPrice 19 rfl) q_303 (hw_10_3 hc0) (ltK rfl) (ltK rfl) rfl ?_
      refine vg_getO (pc := 43) (ci := 8) (f := 0) (dK D_FP_setPrice 20 rfl) q_235 (hw_4_0 (hw_10_3 hc0)) (ltK rfl) (ltK rfl) rfl ?_
      refine vg_getA (pc := 46) (ci := 0) (f := 4) (dK D_FP_setPrice 21 rfl) q_105 (hw_8_0 (hw_4_0 (hw_10_3 hc0))) (ltK rfl) (ltK rfl) rfl ?_
      refine g_iloadn (pc := 49) (i0 := 1) (j := 1) (dK D_FP_setPrice 22 rfl) rfl rfl ?_
      refine gdE h (fun hi5 h => ?_)
      refine vg_iaload (pc := 50) (j := a1.toNat) (dK D_FP_setPrice 23 rfl) (hw_0_4 (hw_8_0 (hw_4_0 (hw_10_3 hc0)))) rfl hi5 rfl ?_
      refine g_istoren (pc := 51) (i0 := 3) (ls2 := [(3, V (g p4 (tgt (tgt (tgt (tgt c0 3) 0) 0) 4) a1.toNat)), (0, .ref c0), (1, V a1), (2, V a2)]) (dK D_FP_setPrice 24 rfl) rfl (ltK rfl) rfl ?_
      refine g_aloadn (pc := 52) (i0 := 0) (j := 1) (dK D_FP_setPrice 25 rfl) rfl rfl ?_
      refine vg_getO (pc := 53) (ci := 10) (f := 3) (dK D_FP_setPrice 26 rfl) q_436 hc0 (ltK rfl) (ltK rfl) rfl ?_
      refine vg_getO (pc := 56) (ci := 4) (f := 0) (dK D_FP_setPrice 27 rfl) q_303 (hw_10_3 hc0) (ltK rfl) (ltK rfl) rfl ?_
      refine vg_getO (pc := 59) (ci := 8) (f := 0) (dK D_FP_setPrice 28 rfl) q_235 (hw_4_0 (hw_10_3 hc0)) (ltK rfl) (ltK rfl) rfl ?_
      refine vg_getA (pc := 62) (ci := 0) (f := 4) (dK D_FP_setPrice 29 rfl) q_105 (hw_8_0 (hw_4_0 (hw_10_3 hc0))) (ltK rfl) (ltK rfl) rfl ?_
      refine g_iloadn (pc := 65) (i0 := 1) (j := 2) (dK D_FP_setPrice 30 rfl) rfl rfl ?_
      refine g_iloadn (pc := 66) (i0 := 2) (j := 3) (dK D_FP_setPrice 31 rfl) rfl rfl ?_
      refine nmE h (fun S6 e_S6 h => ?_)
      refine vg_iastore (pc := 67) (z := a2) (dK D_FP_setPrice 32 rfl) (hw_0_4 (hw_8_0 (hw_4_0 (hw_10_3 hc0)))) rfl hi5 rfl e_S6 ?_
      refine g_iloadn (pc := 68) (i0 := 3) (j := 0) (dK D_FP_setPrice 33 rfl) rfl rfl ?_
      exact vg_iretI (pc := 69) (r := (g p4 (tgt (tgt (tgt (tgt c0 3) 0) 0) 4) a1.toNat)) (dK D_FP_setPrice 34 rfl) rfl (leK rfl) (leK rfl) (xf hfl) (by obtain rfl := Option.some.inj h; exact KT_ok ⟨rfl, (g_in _ _ _), rfl⟩)
    · replace h := ifN h hc3
      exact vg_throw hfl (pc := 12) TH_FP_148_171 (dK D_FP_setPrice 6 rfl) (dK D_FP_setPrice 7 rfl) (dK D_FP_setPrice 8 rfl) (dK D_FP_setPrice 9 rfl) (dK D_FP_setPrice 10 rfl) rfl (leK rfl) (leK rfl) (leK rfl) (leK rfl) (leK rfl) (by obtain rfl := Option.some.inj h; exact KT_thr (e := 2) (by decide))
  · replace h := ifN h he7
    obtain rfl := Option.some.inj h
    exact KT_thr he7
