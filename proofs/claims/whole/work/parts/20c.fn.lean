def fn_Searches_oneIfAny (a0 : Int) (S : St) : Option (Int) := if a0 ≤ 0 then (some 0) else (some 1)
theorem tf_Searches_oneIfAny {E : EV} {X : XT} {a0 : Int} (ha0 : inR a0) {S : St} {q : Int} (h : fn_Searches_oneIfAny a0 S = some q) : Ev E M_Searches_oneIfAny [V a0] (WX X S) 0 0 (KI X q S) := by
  refine Ev.of pn_Searches rfl (leK rfl) ?_
  show Go E M_Searches_oneIfAny 0 0 0 [(0, V a0)] [] (WX X S) 0 0 (KI X q S)
  unfold fn_Searches_oneIfAny at h
  refine g_iloadn (pc := 0) (i0 := 0) (j := 0) (dK D_Searches_oneIfAny 0 rfl) rfl rfl ?_
  refine vg_if_le (pc := 1) (t := 8) (dK D_Searches_oneIfAny 1 rfl) rfl ha0 (fun hc1 => ?_) (fun hc1 => ?_)
  · replace h := ifP h hc1
    refine vg_iconst (pc := 8) (dK D_Searches_oneIfAny 4 rfl) ?_
    exact vg_iretI (pc := 9) (r := 0) (dK D_Searches_oneIfAny 5 rfl) rfl (leK rfl) (leK rfl) (fun _ => rfl) (by obtain rfl := Option.some.inj h; exact ⟨rfl, (inRk rfl), rfl⟩)
  · replace h := ifN h hc1
    refine vg_iconst (pc := 4) (dK D_Searches_oneIfAny 2 rfl) ?_
    refine g_goto (pc := 5) (tgt := 9) (dK D_Searches_oneIfAny 3 rfl) rfl ?_
    exact vg_iretI (pc := 9) (r := 1) (dK D_Searches_oneIfAny 5 rfl) rfl (leK rfl) (leK rfl) (fun _ => rfl) (by obtain rfl := Option.some.inj h; exact ⟨rfl, (inRk rfl), rfl⟩)
def fn_Searches_fewerColorForms (c0 : Nat) (a1 : Int) (a2 : Int) (S : St) : Option (Int) := if 0 ≤ a1 ∧ a1 < 65 then (if 0 ≤ a2 ∧ a2 < 65 then (if (g S (tgt (tgt c0 0) 3) a1.toNat) = (g S (tgt (tgt c0 0) 3) a2.toNat) then (some 0) else (nm (wr ((g S (tgt c0 9) a2.toNat) - (g S (tgt c0 9) a1.toNat))) fun v3 => if 0 ≤ (g S (tgt (tgt c0 0) 3) a1.toNat) ∧ (g S (tgt (tgt c0 0) 3) a1.toNat) < 8 then (bnO (fn_Searches_oneIfAny (g S (tgt c0 8) (((g S (tgt (tgt c0 0) 3) a1.toNat)).toNat)) S) fun p5 => if 0 ≤ (g S (tgt (tgt c0 0) 3) a2.toNat) ∧ (g S (tgt (tgt c0 0) 3) a2.toNat) < 8 then (bnO (fn_Searches_oneIfAny (g S (tgt c0 8) (((g S (tgt (tgt c0 0) 3) a2.toNat)).toNat)) S) fun p7 => nm (wr ((g S (tgt c0 8) (((g S (tgt (tgt c0 0) 3) a1.toNat)).toNat)) + v3)) fun v8 => bnO (fn_Searches_oneIfAny v8 S) fun p9 => nm (wr ((g S (tgt c0 8) (((g S (tgt (tgt c0 0) 3) a2.toNat)).toNat)) - v3)) fun v10 => bnO (fn_Searches_oneIfAny v10 S) fun p11 => some (wr (((p5 + p7) - p9) - p11))) else none) else none)) else none) else none
theorem tf_Searches_fewerColorForms {E : EV} {X : XT} {c0 : Nat} (hc0 : HC X 6 c0) {a1 : Int} (ha1 : inR a1) {a2 : Int} (ha2 : inR a2) {S : St} {q : Int} (h : fn_Searches_fewerColorForms c0 a1 a2 S = some q) : Ev E M_Searches_fewerColorForms [.ref c0, V a1, V a2] (WX X S) 0 0 (KI X q S) := by
  refine Ev.of pn_Searches rfl (leK rfl) ?_
  show Go E M_Searches_fewerColorForms 0 0 0 [(0, .ref c0), (1, V a1), (2, V a2)] [] (WX X S) 0 0 (KI X q S)
  unfold fn_Searches_fewerColorForms at h
  refine g_aloadn (pc := 0) (i0 := 0) (j := 0) (dK D_Searches_fewerColorForms_0 0 rfl) rfl rfl ?_
  refine vg_getO (pc := 1) (ci := 6) (f := 0) (dK D_Searches_fewerColorForms_0 1 rfl) q_368 hc0 (ltK rfl) (ltK rfl) rfl ?_
  refine vg_getA (pc := 4) (ci := 4) (f := 3) (dK D_Searches_fewerColorForms_0 2 rfl) q_304 (hw_6_0 hc0) (ltK rfl) (ltK rfl) rfl ?_
  refine g_iloadn (pc := 7) (i0 := 1) (j := 1) (dK D_Searches_fewerColorForms_0 3 rfl) rfl rfl ?_
  refine gdE h (fun hi1 h => ?_)
  refine vg_iaload (pc := 8) (j := a1.toNat) (dK D_Searches_fewerColorForms_0 4 rfl) (hw_4_3 (hw_6_0 hc0)) rfl hi1 rfl ?_
  refine g_istoren (pc := 9) (i0 := 3) (ls2 := [(3, V (g S (tgt (tgt c0 0) 3) a1.toNat)), (0, .ref c0), (1, V a1), (2, V a2)]) (dK D_Searches_fewerColorForms_0 5 rfl) rfl (ltK rfl) rfl ?_
  refine g_aloadn (pc := 10) (i0 := 0) (j := 1) (dK D_Searches_fewerColorForms_0 6 rfl) rfl rfl ?_
  refine vg_getO (pc := 11) (ci := 6) (f := 0) (dK D_Searches_fewerColorForms_0 7 rfl) q_368 hc0 (ltK rfl) (ltK rfl) rfl ?_
  refine vg_getA (pc := 14) (ci := 4) (f := 3) (dK D_Searches_fewerColorForms_0 8 rfl) q_304 (hw_6_0 hc0) (ltK rfl) (ltK rfl) rfl ?_
  refine g_iloadn (pc := 17) (i0 := 2) (j := 3) (dK D_Searches_fewerColorForms_0 9 rfl) rfl rfl ?_
  refine gdE h (fun hi2 h => ?_)
  refine vg_iaload (pc := 18) (j := a2.toNat) (dK D_Searches_fewerColorForms_0 10 rfl) (hw_4_3 (hw_6_0 hc0)) rfl hi2 rfl ?_
  refine g_istore (pc := 19) (ls2 := [(4, V (g S (tgt (tgt c0 0) 3) a2.toNat)), (3, V (g S (tgt (tgt c0 0) 3) a1.toNat)), (0, .ref c0), (1, V a1), (2, V a2)]) (dK D_Searches_fewerColorForms_0 11 rfl) (ltK rfl) rfl ?_
  refine g_iloadn (pc := 21) (i0 := 3) (j := 1) (dK D_Searches_fewerColorForms_0 12 rfl) rfl rfl ?_
  refine g_iload (pc := 22) (j := 0) (dK D_Searches_fewerColorForms_0 13 rfl) rfl ?_
  refine vg_icmp_ne (pc := 24) (t := 29) (dK D_Searches_fewerColorForms_0 14 rfl) rfl (g_in _ _ _) (g_in _ _ _) (fun hc12 => ?_) (fun hc12 => ?_)
  · replace h := ifN h hc12
    refine g_aloadn (pc := 29) (i0 := 0) (j := 2) (dK D_Searches_fewerColorForms_0 17 rfl) rfl rfl ?_
    refine vg_getA (pc := 30) (ci := 6) (f := 9) (dK D_Searches_fewerColorForms_0 18 rfl) q_378 hc0 (ltK rfl) (ltK rfl) rfl ?_
    refine g_iloadn (pc := 33) (i0 := 2) (j := 4) (dK D_Searches_fewerColorForms_0 19 rfl) rfl rfl ?_
    refine vg_iaload (pc := 34) (j := a2.toNat) (dK D_Searches_fewerColorForms_0 20 rfl) (hw_6_9 hc0) rfl hi2 rfl ?_
    refine g_aloadn (pc := 35) (i0 := 0) (j := 2) (dK D_Searches_fewerColorForms_0 21 rfl) rfl rfl ?_
    refine vg_getA (pc := 36) (ci := 6) (f := 9) (dK D_Searches_fewerColorForms_0 22 rfl) q_378 hc0 (ltK rfl) (ltK rfl) rfl ?_
    refine g_iloadn (pc := 39) (i0 := 1) (j := 3) (dK D_Searches_fewerColorForms_0 23 rfl) rfl rfl ?_
    refine vg_iaload (pc := 40) (j := a1.toNat) (dK D_Searches_fewerColorForms_0 24 rfl) (hw_6_9 hc0) rfl hi1 rfl ?_
    refine vg_isub (pc := 41) (dK D_Searches_fewerColorForms_0 25 rfl) ?_
    refine nmE h (fun v3 e_v3 h => ?_)
    refine gtop e_v3 ?_
    refine g_istore (pc := 42) (ls2 := [(5, V v3), (4, V (g S (tgt (tgt c0 0) 3) a2.toNat)), (3, V (g S (tgt (tgt c0 0) 3) a1.toNat)), (0, .ref c0), (1, V a1), (2, V a2)]) (dK D_Searches_fewerColorForms_0 26 rfl) (ltK rfl) rfl ?_
    refine g_aloadn (pc := 44) (i0 := 0) (j := 3) (dK D_Searches_fewerColorForms_0 27 rfl) rfl rfl ?_
    refine vg_getA (pc := 45) (ci := 6) (f := 8) (dK D_Searches_fewerColorForms_0 28 rfl) q_377 hc0 (ltK rfl) (ltK rfl) rfl ?_
    refine g_iloadn (pc := 48) (i0 := 3) (j := 2) (dK D_Searches_fewerColorForms_0 29 rfl) rfl rfl ?_
    refine gdE h (fun hi4 h => ?_)
    refine vg_iaload (pc := 49) (j := ((g S (tgt (tgt c0 0) 3) a1.toNat)).toNat) (dK D_Searches_fewerColorForms_0 30 rfl) (hw_6_8 hc0) rfl hi4 rfl ?_
    refine bnE h (fun p5 e_p5 h => ?_)
    refine vg_cS (pc := 50) (As := [V (g S (tgt c0 8) (((g S (tgt (tgt c0 0) 3) a1.toNat)).toNat))]) (rest := []) (mc' := 0) (ms' := 0) (dK D_Searches_fewerColorForms_0 31 rfl) K_Searches_198 (fitK rfl) rfl (leK rfl) (leK rfl) (leK rfl) (tf_Searches_oneIfAny (g_in _ _ _) e_p5) (kcI (fun h_p5 => ?_))
    refine g_aloadn (pc := 53) (i0 := 0) (j := 3) (dK D_Searches_fewerColorForms_0 32 rfl) rfl rfl ?_
    refine vg_getA (pc := 54) (ci := 6) (f := 8) (dK D_Searches_fewerColorForms_0 33 rfl) q_377 hc0 (ltK rfl) (ltK rfl) rfl ?_
    refine g_iload (pc := 57) (j := 1) (dK D_Searches_fewerColorForms_0 34 rfl) rfl ?_
    refine gdE h (fun hi6 h => ?_)
    refine vg_iaload (pc := 59) (j := ((g S (tgt (tgt c0 0) 3) a2.toNat)).toNat) (dK D_Searches_fewerColorForms_0 35 rfl) (hw_6_8 hc0) rfl hi6 rfl ?_
    refine bnE h (fun p7 e_p7 h => ?_)
    refine vg_cS (pc := 60) (As := [V (g S (tgt c0 8) (((g S (tgt (tgt c0 0) 3) a2.toNat)).toNat))]) (rest := [V p5]) (mc' := 0) (ms' := 0) (dK D_Searches_fewerColorForms_0 36 rfl) K_Searches_198 (fitK rfl) rfl (leK rfl) (leK rfl) (leK rfl) (tf_Searches_oneIfAny (g_in _ _ _) e_p7) (kcI (fun h_p7 => ?_))
    refine vg_iadd (pc := 63) (dK D_Searches_fewerColorForms_0 37 rfl) ?_
    refine g_aloadn (pc := 64) (i0 := 0) (j := 3) (dK D_Searches_fewerColorForms_0 38 rfl) rfl rfl ?_
    refine vg_getA (pc := 65) (ci := 6) (f := 8) (dK D_Searches_fewerColorForms_0 39 rfl) q_377 hc0 (ltK rfl) (ltK rfl) rfl ?_
    refine g_iloadn (pc := 68) (i0 := 3) (j := 2) (dK D_Searches_fewerColorForms_0 40 rfl) rfl rfl ?_
    refine vg_iaload (pc := 69) (j := ((g S (tgt (tgt c0 0) 3) a1.toNat)).toNat) (dK D_Searches_fewerColorForms_0 41 rfl) (hw_6_8 hc0) rfl hi4 rfl ?_
    refine g_iload (pc := 70) (j := 0) (dK D_Searches_fewerColorForms_0 42 rfl) rfl ?_
    refine vg_iadd (pc := 72) (dK D_Searches_fewerColorForms_0 43 rfl) ?_
    refine nmE h (fun v8 e_v8 h => ?_)
    refine gtop e_v8 ?_
    refine bnE h (fun p9 e_p9 h => ?_)
    refine vg_cS (pc := 73) (As := [V v8]) (rest := [V (p5 + p7)]) (mc' := 0) (ms' := 0) (dK D_Searches_fewerColorForms_0 44 rfl) K_Searches_198 (fitK rfl) rfl (leK rfl) (leK rfl) (leK rfl) (tf_Searches_oneIfAny (Vn_in e_v8) e_p9) (kcI (fun h_p9 => ?_))
    refine vg_isub (pc := 76) (dK D_Searches_fewerColorForms_0 45 rfl) ?_
    refine g_aloadn (pc := 77) (i0 := 0) (j := 3) (dK D_Searches_fewerColorForms_0 46 rfl) rfl rfl ?_
    refine vg_getA (pc := 78) (ci := 6) (f := 8) (dK D_Searches_fewerColorForms_0 47 rfl) q_377 hc0 (ltK rfl) (ltK rfl) rfl ?_
    refine g_iload (pc := 81) (j := 1) (dK D_Searches_fewerColorForms_0 48 rfl) rfl ?_
    refine vg_iaload (pc := 83) (j := ((g S (tgt (tgt c0 0) 3) a2.toNat)).toNat) (dK D_Searches_fewerColorForms_0 49 rfl) (hw_6_8 hc0) rfl hi6 rfl ?_
    refine g_iload (pc := 84) (j := 0) (dK D_Searches_fewerColorForms_1 0 rfl) rfl ?_
    refine vg_isub (pc := 86) (dK D_Searches_fewerColorForms_1 1 rfl) ?_
    refine nmE h (fun v10 e_v10 h => ?_)
    refine gtop e_v10 ?_
    refine bnE h (fun p11 e_p11 h => ?_)
    refine vg_cS (pc := 87) (As := [V v10]) (rest := [V ((p5 + p7) - p9)]) (mc' := 0) (ms' := 0) (dK D_Searches_fewerColorForms_1 2 rfl) K_Searches_198 (fitK rfl) rfl (leK rfl) (leK rfl) (leK rfl) (tf_Searches_oneIfAny (Vn_in e_v10) e_p11) (kcI (fun h_p11 => ?_))
    refine vg_isub (pc := 90) (dK D_Searches_fewerColorForms_1 3 rfl) ?_
    refine gtop (x := (wr (((p5 + p7) - p9) - p11))) rfl ?_
    exact vg_iretI (pc := 91) (r := (wr (((p5 + p7) - p9) - p11))) (dK D_Searches_fewerColorForms_1 4 rfl) rfl (leK rfl) (leK rfl) (fun _ => rfl) (by obtain rfl := Option.some.inj h; exact ⟨rfl, (wr_in _), rfl⟩)
  · replace h := ifP h hc12
    refine vg_iconst (pc := 27) (dK D_Searches_fewerColorForms_0 15 rfl) ?_
    exact vg_iretI (pc := 28) (r := 0) (dK D_Searches_fewerColorForms_0 16 rfl) rfl (leK rfl) (leK rfl) (fun _ => rfl) (by obtain rfl := Option.some.inj h; exact ⟨rfl, (inRk rfl), rfl⟩)
def fn_Plan_exchanged (a0 : Int) (a1 : Int) (a2 : Int) (S : St) : Option (Int) := if a0 = a1 then (some a2) else (if a0 = a2 then (some a1) else (some a0))
theorem tf_Plan_exchanged {E : EV} {X : XT} {a0 : Int} (ha0 : inR a0) {a1 : Int} (ha1 : inR a1) {a2 : Int} (ha2 : inR a2) {S : St} {q : Int} (h : fn_Plan_exchanged a0 a1 a2 S = some q) : Ev E M_Plan_exchanged [V a0, V a1, V a2] (WX X S) 0 0 (KI X q S) := by
  refine Ev.of pn_Plan rfl (leK rfl) ?_
  show Go E M_Plan_exchanged 0 0 0 [(0, V a0), (1, V a1), (2, V a2)] [] (WX X S) 0 0 (KI X q S)
  unfold fn_Plan_exchanged at h
  refine g_iloadn (pc := 0) (i0 := 0) (j := 0) (dK D_Plan_exchanged 0 rfl) rfl rfl ?_
  refine g_iloadn (pc := 1) (i0 := 1) (j := 1) (dK D_Plan_exchanged 1 rfl) rfl rfl ?_
  refine vg_icmp_ne (pc := 2) (t := 7) (dK D_Plan_exchanged 2 rfl) rfl ha0 ha1 (fun hc2 => ?_) (fun hc2 => ?_)
  · replace h := ifN h hc2
    refine g_iloadn (pc := 7) (i0 := 0) (j := 0) (dK D_Plan_exchanged 5 rfl) rfl rfl ?_
    refine g_iloadn (pc := 8) (i0 := 2) (j := 2) (dK D_Plan_exchanged 6 rfl) rfl rfl ?_
    refine vg_icmp_ne (pc := 9) (t := 16) (dK D_Plan_exchanged 7 rfl) rfl ha0 ha2 (fun hc1 => ?_) (fun hc1 => ?_)
    · replace h := ifN h hc1
      refine g_iloadn (pc := 16) (i0 := 0) (j := 0) (dK D_Plan_exchanged 10 rfl) rfl rfl ?_
      exact vg_iretI (pc := 17) (r := a0) (dK D_Plan_exchanged 11 rfl) rfl (leK rfl) (leK rfl) (fun _ => rfl) (by obtain rfl := Option.some.inj h; exact ⟨rfl, ha0, rfl⟩)
    · replace h := ifP h hc1
      refine g_iloadn (pc := 12) (i0 := 1) (j := 1) (dK D_Plan_exchanged 8 rfl) rfl rfl ?_
      refine g_goto (pc := 13) (tgt := 17) (dK D_Plan_exchanged 9 rfl) rfl ?_
      exact vg_iretI (pc := 17) (r := a1) (dK D_Plan_exchanged 11 rfl) rfl (leK rfl) (leK rfl) (fun _ => rfl) (by obtain rfl := Option.some.inj h; exact ⟨rfl, ha1, rfl⟩)
  · replace h := ifP h hc2
    refine g_iloadn (pc := 5) (i0 := 2) (j := 2) (dK D_Plan_exchanged 3 rfl) rfl rfl ?_
    exact vg_iretI (pc := 6) (r := a2) (dK D_Plan_exchanged 4 rfl) rfl (leK rfl) (leK rfl) (fun _ => rfl) (by obtain rfl := Option.some.inj h; exact ⟨rfl, ha2, rfl⟩)
def fn_Ads_areRivals (c0 : Nat) (a1 : Int) (a2 : Int) (S : St) : Option (Bool) := if a1 = a2 then (some false) else (if 0 ≤ a1 ∧ a1 < 40 then (if (g S (tgt c0 1) a1.toNat) = 0 then (some false) else (if 0 ≤ a2 ∧ a2 < 40 then (if (g S (tgt c0 1) a1.toNat) = (g S (tgt c0 1) a2.toNat) then (some true) else (some false)) else none)) else none)
theorem tf_Ads_areRivals {E : EV} {X : XT} {c0 : Nat} (hc0 : HC X 0 c0) {a1 : Int} (ha1 : inR a1) {a2 : Int} (ha2 : inR a2) {S : St} {q : Bool} (h : fn_Ads_areRivals c0 a1 a2 S = some q) : Ev E M_Ads_areRivals [.ref c0, V a1, V a2] (WX X S) 0 0 (KB X q S) := by
  refine Ev.of pn_Ads rfl (leK rfl) ?_
  show Go E M_Ads_areRivals 0 0 0 [(0, .ref c0), (1, V a1), (2, V a2)] [] (WX X S) 0 0 (KB X q S)
  unfold fn_Ads_areRivals at h
  refine g_iloadn (pc := 0) (i0 := 1) (j := 1) (dK D_Ads_areRivals 0 rfl) rfl rfl ?_
  refine g_iloadn (pc := 1) (i0 := 2) (j := 2) (dK D_Ads_areRivals 1 rfl) rfl rfl ?_
  refine vg_icmp_eq (pc := 2) (t := 33) (dK D_Ads_areRivals 2 rfl) rfl ha1 ha2 (fun hc5 => ?_) (fun hc5 => ?_)
  · replace h := ifP h hc5
    refine vg_iconst (pc := 33) (dK D_Ads_areRivals 19 rfl) ?_
    exact vg_iretB (pc := 34) (b := false) (dK D_Ads_areRivals 20 rfl) rfl (leK rfl) (leK rfl) (fun _ => rfl) (by obtain rfl := Option.some.inj h; exact ⟨rfl, rfl⟩)
  · replace h := ifN h hc5
    refine g_aloadn (pc := 5) (i0 := 0) (j := 0) (dK D_Ads_areRivals 3 rfl) rfl rfl ?_
    refine vg_getA (pc := 6) (ci := 0) (f := 1) (dK D_Ads_areRivals 4 rfl) q_80 hc0 (ltK rfl) (ltK rfl) rfl ?_
    refine g_iloadn (pc := 9) (i0 := 1) (j := 1) (dK D_Ads_areRivals 5 rfl) rfl rfl ?_
    refine gdE h (fun hi1 h => ?_)
    refine vg_iaload (pc := 10) (j := a1.toNat) (dK D_Ads_areRivals 6 rfl) (hw_0_1 hc0) rfl hi1 rfl ?_
    refine vg_if_eq (pc := 11) (t := 33) (dK D_Ads_areRivals 7 rfl) rfl (g_in _ _ _) (fun hc4 => ?_) (fun hc4 => ?_)
    · replace h := ifP h hc4
      refine vg_iconst (pc := 33) (dK D_Ads_areRivals 19 rfl) ?_
      exact vg_iretB (pc := 34) (b := false) (dK D_Ads_areRivals 20 rfl) rfl (leK rfl) (leK rfl) (fun _ => rfl) (by obtain rfl := Option.some.inj h; exact ⟨rfl, rfl⟩)
    · replace h := ifN h hc4
      refine g_aloadn (pc := 14) (i0 := 0) (j := 0) (dK D_Ads_areRivals 8 rfl) rfl rfl ?_
      refine vg_getA (pc := 15) (ci := 0) (f := 1) (dK D_Ads_areRivals 9 rfl) q_80 hc0 (ltK rfl) (ltK rfl) rfl ?_
      refine g_iloadn (pc := 18) (i0 := 1) (j := 1) (dK D_Ads_areRivals 10 rfl) rfl rfl ?_
      refine vg_iaload (pc := 19) (j := a1.toNat) (dK D_Ads_areRivals 11 rfl) (hw_0_1 hc0) rfl hi1 rfl ?_
      refine g_aloadn (pc := 20) (i0 := 0) (j := 0) (dK D_Ads_areRivals 12 rfl) rfl rfl ?_
      refine vg_getA (pc := 21) (ci := 0) (f := 1) (dK D_Ads_areRivals 13 rfl) q_80 hc0 (ltK rfl) (ltK rfl) rfl ?_
      refine g_iloadn (pc := 24) (i0 := 2) (j := 2) (dK D_Ads_areRivals 14 rfl) rfl rfl ?_
      refine gdE h (fun hi2 h => ?_)
      refine vg_iaload (pc := 25) (j := a2.toNat) (dK D_Ads_areRivals 15 rfl) (hw_0_1 hc0) rfl hi2 rfl ?_
      refine vg_icmp_ne (pc := 26) (t := 33) (dK D_Ads_areRivals 16 rfl) rfl (g_in _ _ _) (g_in _ _ _) (fun hc3 => ?_) (fun hc3 => ?_)
      · replace h := ifN h hc3
        refine vg_iconst (pc := 33) (dK D_Ads_areRivals 19 rfl) ?_
        exact vg_iretB (pc := 34) (b := false) (dK D_Ads_areRivals 20 rfl) rfl (leK rfl) (leK rfl) (fun _ => rfl) (by obtain rfl := Option.some.inj h; exact ⟨rfl, rfl⟩)
      · replace h := ifP h hc3
        refine vg_iconst (pc := 29) (dK D_Ads_areRivals 17 rfl) ?_
        refine g_goto (pc := 30) (tgt := 34) (dK D_Ads_areRivals 18 rfl) rfl ?_
        exact vg_iretB (pc := 34) (b := true) (dK D_Ads_areRivals 20 rfl) rfl (leK rfl) (leK rfl) (fun _ => rfl) (by obtain rfl := Option.some.inj h; exact ⟨rfl, rfl⟩)
def lb_Plan_exchangedReason_67 (c0 : Nat) (a1 : Int) (a2 : Int) (a3 : Int) (a4 : Int) (S : St) (go : Int → Option ((Int) ⊕ (Unit))) (a5 : Int) : Option ((Int) ⊕ (Unit)) := if (g S (tgt (tgt c0 0) 0) 7) ≤ a5 then (some (.inr ())) else (if 0 ≤ a5 ∧ a5 < 40 then (bnO (fn_Plan_exchanged (g S (tgt (tgt (tgt c0 0) 0) 6) a5.toNat) a2 a3 S) fun p8 => bnO (fn_Ads_areRivals (tgt (tgt c0 0) 0) a1 a5 S) fun p9 => if p9 = true then (if p8 = 0 then (nm (wr (a5 + 1)) fun v12 => go v12) else (nm (wr (a4.tdiv 2)) fun v13 => nm (wr (p8.tdiv 2)) fun v14 => if v14 = v13 then (some (.inl 6)) else (nm (wr (a5 + 1)) fun v15 => go v15))) else (nm (wr (a5 + 1)) fun v11 => go v11)) else none)
def lo_Plan_exchangedReason_67 (c0 : Nat) (a1 : Int) (a2 : Int) (a3 : Int) (a4 : Int) (S : St) : Nat → Int → Option ((Int) ⊕ (Unit)) := lp fun go p => lb_Plan_exchangedReason_67 c0 a1 a2 a3 a4 S go p
theorem tl_Plan_exchangedReason_67 {E : EV} {X : XT} {c0 : Nat} (hc0 : HC X 4 c0) {a1 : Int} (ha1 : inR a1) {a2 : Int} (ha2 : inR a2) {a3 : Int} (ha3 : inR a3) {a4 : Int} (ha4 : inR a4) {S : St} {K : RK → PS → Prop} {q : (Int) ⊕ (Unit)} (hx : ∀ p, q = .inr p → Go E M_Plan_exchangedReason 0 0 143 [] [] (WX X S) 0 0 K) (hr : ∀ p, q = .inl p → inR p → K (.inl (some (V p))) (WX X S)) : ∀ n a, lo_Plan_exchangedReason_67 c0 a1 a2 a3 a4 S n a = some q → inR a → Go E M_Plan_exchangedReason 0 0 67 [(0, .ref c0), (1, V a1), (2, V a2), (3, V a3), (4, V a4), (5, V a)] [] (WX X S) 0 0 K := by
  refine lp_ind (P := fun a : Int => inR a → Go E M_Plan_exchangedReason 0 0 67 [(0, .ref c0), (1, V a1), (2, V a2), (3, V a3), (4, V a4), (5, V a)] [] (WX X S) 0 0 K) (fun go ih a5 h => ?_)
  intro ha5
  show Go E M_Plan_exchangedReason 0 0 67 [(0, .ref c0), (1, V a1), (2, V a2), (3, V a3), (4, V a4), (5, V a5)] [] (WX X S) 0 0 K
  replace h : lb_Plan_exchangedReason_67 c0 a1 a2 a3 a4 S go a5 = some q := h
  unfold lb_Plan_exchangedReason_67 at h
  refine g_iload (pc := 67) (j := 5) (dK D_Plan_exchangedReason_0 35 rfl) rfl ?_
  refine g_aloadn (pc := 69) (i0 := 0) (j := 0) (dK D_Plan_exchangedReason_0 36 rfl) rfl rfl ?_
  refine vg_getO (pc := 70) (ci := 4) (f := 0) (dK D_Plan_exchangedReason_0 37 rfl) q_290 hc0 (ltK rfl) (ltK rfl) rfl ?_
  refine vg_getO (pc := 73) (ci := 8) (f := 0) (dK D_Plan_exchangedReason_0 38 rfl) q_222 (hw_4_0 hc0) (ltK rfl) (ltK rfl) rfl ?_
  refine vg_getI (pc := 76) (ci := 0) (f := 7) (dK D_Plan_exchangedReason_0 39 rfl) q_107 (hw_8_0 (hw_4_0 hc0)) (ltK rfl) (ltK rfl) rfl ?_
  refine vg_icmp_ge (pc := 79) (t := 143) (dK D_Plan_exchangedReason_0 40 rfl) rfl ha5 (g_in _ _ _) (fun hc18 => ?_) (fun hc18 => ?_)
  · replace h := ifP h hc18
    refine gL_weak (ls' := []) sbn ?_
    exact hx _ (Option.some.inj h).symm 
  · replace h := ifN h hc18
    refine g_aloadn (pc := 82) (i0 := 0) (j := 0) (dK D_Plan_exchangedReason_0 41 rfl) rfl rfl ?_
    refine vg_getO (pc := 83) (ci := 4) (f := 0) (dK D_Plan_exchangedReason_0 42 rfl) q_290 hc0 (ltK rfl) (ltK rfl) rfl ?_
    refine vg_getO (pc := 86) (ci := 8) (f := 0) (dK D_Plan_exchangedReason_0 43 rfl) q_222 (hw_4_0 hc0) (ltK rfl) (ltK rfl) rfl ?_
    refine vg_getA (pc := 89) (ci := 0) (f := 6) (dK D_Plan_exchangedReason_0 44 rfl) q_102 (hw_8_0 (hw_4_0 hc0)) (ltK rfl) (ltK rfl) rfl ?_
    refine g_iload (pc := 92) (j := 5) (dK D_Plan_exchangedReason_0 45 rfl) rfl ?_
    refine gdE h (fun hi7 h => ?_)
    refine vg_iaload (pc := 94) (j := a5.toNat) (dK D_Plan_exchangedReason_0 46 rfl) (hw_0_6 (hw_8_0 (hw_4_0 hc0))) rfl hi7 rfl ?_
    refine g_iloadn (pc := 95) (i0 := 2) (j := 2) (dK D_Plan_exchangedReason_0 47 rfl) rfl rfl ?_
    refine g_iloadn (pc := 96) (i0 := 3) (j := 3) (dK D_Plan_exchangedReason_0 48 rfl) rfl rfl ?_
    refine bnE h (fun p8 e_p8 h => ?_)
    refine vg_cS (pc := 97) (As := [V (g S (tgt (tgt (tgt c0 0) 0) 6) a5.toNat), V a2, V a3]) (rest := []) (mc' := 0) (ms' := 0) (dK D_Plan_exchangedReason_0 49 rfl) K_Plan_167 (fitK rfl) rfl (leK rfl) (leK rfl) (leK rfl) (tf_Plan_exchanged (g_in _ _ _) ha2 ha3 e_p8) (kcI (fun h_p8 => ?_))
    refine g_istore (pc := 100) (ls2 := [(6, V p8), (0, .ref c0), (1, V a1), (2, V a2), (3, V a3), (4, V a4), (5, V a5)]) (dK D_Plan_exchangedReason_1 0 rfl) (ltK rfl) rfl ?_
    refine g_aloadn (pc := 102) (i0 := 0) (j := 1) (dK D_Plan_exchangedReason_1 1 rfl) rfl rfl ?_
    refine vg_getO (pc := 103) (ci := 4) (f := 0) (dK D_Plan_exchangedReason_1 2 rfl) q_290 hc0 (ltK rfl) (ltK rfl) rfl ?_
    refine vg_getO (pc := 106) (ci := 8) (f := 0) (dK D_Plan_exchangedReason_1 3 rfl) q_222 (hw_4_0 hc0) (ltK rfl) (ltK rfl) rfl ?_
    refine g_iloadn (pc := 109) (i0 := 1) (j := 2) (dK D_Plan_exchangedReason_1 4 rfl) rfl rfl ?_
    refine g_iload (pc := 110) (j := 6) (dK D_Plan_exchangedReason_1 5 rfl) rfl ?_
    refine bnE h (fun p9 e_p9 h => ?_)
    refine vg_cV (pc := 112) (As := [V a1, V a5]) (rest := []) (mc' := 0) (ms' := 0) (dK D_Plan_exchangedReason_1 6 rfl) K_Plan_170 (fitK rfl) (ltK rfl) (hw_8_0 (hw_4_0 hc0)) rfl (leK rfl) (leK rfl) (leK rfl) (tf_Ads_areRivals (hw_8_0 (hw_4_0 hc0)) ha1 ha5 e_p9) (kcB ?_)
    refine vg_ifB_eq (pc := 115) (b := p9) (t := 137) (dK D_Plan_exchangedReason_1 7 rfl) rfl (fun hc10 => ?_) (fun hc10 => ?_)
    · replace h := ifP h hc10
      refine g_iload (pc := 118) (j := 0) (dK D_Plan_exchangedReason_1 8 rfl) rfl ?_
      refine vg_if_eq (pc := 120) (t := 137) (dK D_Plan_exchangedReason_1 9 rfl) rfl h_p8 (fun hc17 => ?_) (fun hc17 => ?_)
      · replace h := ifP h hc17
        refine nmE h (fun v12 e_v12 h => ?_)
        refine vg_iinc (pc := 137) (j := 6) (a := a5) (z := 1) (ls2 := [(5, V v12), (6, V p8), (0, .ref c0), (1, V a1), (2, V a2), (3, V a3), (4, V a4)]) (dK D_Plan_exchangedReason_1 19 rfl) rfl e_v12 (ltK rfl) rfl ?_
        refine g_goto (pc := 140) (tgt := 67) (dK D_Plan_exchangedReason_1 20 rfl) rfl ?_
        refine gL_weak (ls' := [(0, .ref c0), (1, V a1), (2, V a2), (3, V a3), (4, V a4), (5, V v12)]) (sbc 2 rfl (sbc 3 rfl (sbc 4 rfl (sbc 5 rfl (sbc 6 rfl (sbc 0 rfl sbn)))))) ?_
        replace h := ih _ h
        exact h (Vn_in e_v12)
      · replace h := ifN h hc17
        refine g_iload (pc := 123) (j := 0) (dK D_Plan_exchangedReason_1 10 rfl) rfl ?_
        refine vg_iconst (pc := 125) (dK D_Plan_exchangedReason_1 11 rfl) ?_
        refine vg_idiv (pc := 126) (dK D_Plan_exchangedReason_1 12 rfl) h_p8 (inRk rfl) (by decide) ?_
        refine g_iload (pc := 127) (j := 5) (dK D_Plan_exchangedReason_1 13 rfl) rfl ?_
        refine vg_iconst (pc := 129) (dK D_Plan_exchangedReason_1 14 rfl) ?_
        refine vg_idiv (pc := 130) (dK D_Plan_exchangedReason_1 15 rfl) ha4 (inRk rfl) (by decide) ?_
        refine nmE h (fun v13 e_v13 h => ?_)
        refine gtop e_v13 ?_
        refine nmE h (fun v14 e_v14 h => ?_)
        refine gsk (st' := [V v13, V v14]) (by rw [Vn e_v14]) ?_
        refine vg_icmp_ne (pc := 131) (t := 137) (dK D_Plan_exchangedReason_1 16 rfl) rfl (Vn_in e_v14) (Vn_in e_v13) (fun hc16 => ?_) (fun hc16 => ?_)
        · replace h := ifN h hc16
          refine nmE h (fun v15 e_v15 h => ?_)
          refine vg_iinc (pc := 137) (j := 6) (a := a5) (z := 1) (ls2 := [(5, V v15), (6, V p8), (0, .ref c0), (1, V a1), (2, V a2), (3, V a3), (4, V a4)]) (dK D_Plan_exchangedReason_1 19 rfl) rfl e_v15 (ltK rfl) rfl ?_
          refine g_goto (pc := 140) (tgt := 67) (dK D_Plan_exchangedReason_1 20 rfl) rfl ?_
          refine gL_weak (ls' := [(0, .ref c0), (1, V a1), (2, V a2), (3, V a3), (4, V a4), (5, V v15)]) (sbc 2 rfl (sbc 3 rfl (sbc 4 rfl (sbc 5 rfl (sbc 6 rfl (sbc 0 rfl sbn)))))) ?_
          replace h := ih _ h
          exact h (Vn_in e_v15)
        · replace h := ifP h hc16
          refine vg_bipush (pc := 134) (dK D_Plan_exchangedReason_1 17 rfl) rfl ?_
          exact vg_iretI (pc := 136) (r := 6) (dK D_Plan_exchangedReason_1 18 rfl) rfl (leK rfl) (leK rfl) (fun _ => rfl) (hr _ (Option.some.inj h).symm (inRk rfl))
    · replace h := ifN h hc10
      refine nmE h (fun v11 e_v11 h => ?_)
      refine vg_iinc (pc := 137) (j := 6) (a := a5) (z := 1) (ls2 := [(5, V v11), (6, V p8), (0, .ref c0), (1, V a1), (2, V a2), (3, V a3), (4, V a4)]) (dK D_Plan_exchangedReason_1 19 rfl) rfl e_v11 (ltK rfl) rfl ?_
      refine g_goto (pc := 140) (tgt := 67) (dK D_Plan_exchangedReason_1 20 rfl) rfl ?_
      refine gL_weak (ls' := [(0, .ref c0), (1, V a1), (2, V a2), (3, V a3), (4, V a4), (5, V v11)]) (sbc 2 rfl (sbc 3 rfl (sbc 4 rfl (sbc 5 rfl (sbc 6 rfl (sbc 0 rfl sbn)))))) ?_
      replace h := ih _ h
      exact h (Vn_in e_v11)
def fn_Plan_exchangedReason (c0 : Nat) (a1 : Int) (a2 : Int) (a3 : Int) (S : St) : Option (Int) := if 0 ≤ a1 ∧ a1 < 40 then (bnO (fn_Plan_exchanged (g S (tgt (tgt (tgt c0 0) 0) 6) a1.toNat) a2 a3 S) fun p2 => bnO (fn_Plan_lacksColor c0 (g S (tgt (tgt (tgt c0 0) 0) 2) a1.toNat) p2 S) fun p3 => if p3 = true then (some 4) else (bnO (fn_Plan_isWrongSide (g S (tgt (tgt (tgt c0 0) 0) 3) a1.toNat) p2 S) fun p5 => if p5 = true then (some 5) else (bnS (lo_Plan_exchangedReason_67 c0 a1 a2 a3 p2 S FU 0) (fun p20 => some p20) fun p19 => some 0))) else none
theorem tf_Plan_exchangedReason {E : EV} {X : XT} {c0 : Nat} (hc0 : HC X 4 c0) {a1 : Int} (ha1 : inR a1) {a2 : Int} (ha2 : inR a2) {a3 : Int} (ha3 : inR a3) {S : St} {q : Int} (h : fn_Plan_exchangedReason c0 a1 a2 a3 S = some q) : Ev E M_Plan_exchangedReason [.ref c0, V a1, V a2, V a3] (WX X S) 0 0 (KI X q S) := by
  refine Ev.of pn_Plan rfl (leK rfl) ?_
  show Go E M_Plan_exchangedReason 0 0 0 [(0, .ref c0), (1, V a1), (2, V a2), (3, V a3)] [] (WX X S) 0 0 (KI X q S)
  unfold fn_Plan_exchangedReason at h
  refine g_aloadn (pc := 0) (i0 := 0) (j := 0) (dK D_Plan_exchangedReason_0 0 rfl) rfl rfl ?_
  refine vg_getO (pc := 1) (ci := 4) (f := 0) (dK D_Plan_exchangedReason_0 1 rfl) q_290 hc0 (ltK rfl) (ltK rfl) rfl ?_
  refine vg_getO (pc := 4) (ci := 8) (f := 0) (dK D_Plan_exchangedReason_0 2 rfl) q_222 (hw_4_0 hc0) (ltK rfl) (ltK rfl) rfl ?_
  refine vg_getA (pc := 7) (ci := 0) (f := 6) (dK D_Plan_exchangedReason_0 3 rfl) q_102 (hw_8_0 (hw_4_0 hc0)) (ltK rfl) (ltK rfl) rfl ?_
  refine g_iloadn (pc := 10) (i0 := 1) (j := 1) (dK D_Plan_exchangedReason_0 4 rfl) rfl rfl ?_
  refine gdE h (fun hi1 h => ?_)
  refine vg_iaload (pc := 11) (j := a1.toNat) (dK D_Plan_exchangedReason_0 5 rfl) (hw_0_6 (hw_8_0 (hw_4_0 hc0))) rfl hi1 rfl ?_
  refine g_iloadn (pc := 12) (i0 := 2) (j := 2) (dK D_Plan_exchangedReason_0 6 rfl) rfl rfl ?_
  refine g_iloadn (pc := 13) (i0 := 3) (j := 3) (dK D_Plan_exchangedReason_0 7 rfl) rfl rfl ?_
  refine bnE h (fun p2 e_p2 h => ?_)
  refine vg_cS (pc := 14) (As := [V (g S (tgt (tgt (tgt c0 0) 0) 6) a1.toNat), V a2, V a3]) (rest := []) (mc' := 0) (ms' := 0) (dK D_Plan_exchangedReason_0 8 rfl) K_Plan_167 (fitK rfl) rfl (leK rfl) (leK rfl) (leK rfl) (tf_Plan_exchanged (g_in _ _ _) ha2 ha3 e_p2) (kcI (fun h_p2 => ?_))
  refine g_istore (pc := 17) (ls2 := [(4, V p2), (0, .ref c0), (1, V a1), (2, V a2), (3, V a3)]) (dK D_Plan_exchangedReason_0 9 rfl) (ltK rfl) rfl ?_
  refine g_aloadn (pc := 19) (i0 := 0) (j := 1) (dK D_Plan_exchangedReason_0 10 rfl) rfl rfl ?_
  refine g_aloadn (pc := 20) (i0 := 0) (j := 1) (dK D_Plan_exchangedReason_0 11 rfl) rfl rfl ?_
  refine vg_getO (pc := 21) (ci := 4) (f := 0) (dK D_Plan_exchangedReason_0 12 rfl) q_290 hc0 (ltK rfl) (ltK rfl) rfl ?_
  refine vg_getO (pc := 24) (ci := 8) (f := 0) (dK D_Plan_exchangedReason_0 13 rfl) q_222 (hw_4_0 hc0) (ltK rfl) (ltK rfl) rfl ?_
  refine vg_getA (pc := 27) (ci := 0) (f := 2) (dK D_Plan_exchangedReason_0 14 rfl) q_86 (hw_8_0 (hw_4_0 hc0)) (ltK rfl) (ltK rfl) rfl ?_
  refine g_iloadn (pc := 30) (i0 := 1) (j := 2) (dK D_Plan_exchangedReason_0 15 rfl) rfl rfl ?_
  refine vg_iaload (pc := 31) (j := a1.toNat) (dK D_Plan_exchangedReason_0 16 rfl) (hw_0_2 (hw_8_0 (hw_4_0 hc0))) rfl hi1 rfl ?_
  refine g_iload (pc := 32) (j := 0) (dK D_Plan_exchangedReason_0 17 rfl) rfl ?_
  refine bnE h (fun p3 e_p3 h => ?_)
  refine vg_cV (pc := 34) (As := [V (g S (tgt (tgt (tgt c0 0) 0) 2) a1.toNat), V p2]) (rest := []) (mc' := 0) (ms' := 0) (dK D_Plan_exchangedReason_0 18 rfl) K_Plan_139 (fitK rfl) (ltK rfl) hc0 rfl (leK rfl) (leK rfl) (leK rfl) (tf_Plan_lacksColor hc0 (g_in _ _ _) h_p2 e_p3) (kcB ?_)
  refine vg_ifB_eq (pc := 37) (b := p3) (t := 42) (dK D_Plan_exchangedReason_0 19 rfl) rfl (fun hc4 => ?_) (fun hc4 => ?_)
  · replace h := ifP h hc4
    refine vg_iconst (pc := 40) (dK D_Plan_exchangedReason_0 20 rfl) ?_
    exact vg_iretI (pc := 41) (r := 4) (dK D_Plan_exchangedReason_0 21 rfl) rfl (leK rfl) (leK rfl) (fun _ => rfl) (by obtain rfl := Option.some.inj h; exact ⟨rfl, (inRk rfl), rfl⟩)
  · replace h := ifN h hc4
    refine g_aloadn (pc := 42) (i0 := 0) (j := 1) (dK D_Plan_exchangedReason_0 22 rfl) rfl rfl ?_
    refine vg_getO (pc := 43) (ci := 4) (f := 0) (dK D_Plan_exchangedReason_0 23 rfl) q_290 hc0 (ltK rfl) (ltK rfl) rfl ?_
    refine vg_getO (pc := 46) (ci := 8) (f := 0) (dK D_Plan_exchangedReason_0 24 rfl) q_222 (hw_4_0 hc0) (ltK rfl) (ltK rfl) rfl ?_
    refine vg_getA (pc := 49) (ci := 0) (f := 3) (dK D_Plan_exchangedReason_0 25 rfl) q_91 (hw_8_0 (hw_4_0 hc0)) (ltK rfl) (ltK rfl) rfl ?_
    refine g_iloadn (pc := 52) (i0 := 1) (j := 2) (dK D_Plan_exchangedReason_0 26 rfl) rfl rfl ?_
    refine vg_iaload (pc := 53) (j := a1.toNat) (dK D_Plan_exchangedReason_0 27 rfl) (hw_0_3 (hw_8_0 (hw_4_0 hc0))) rfl hi1 rfl ?_
    refine g_iload (pc := 54) (j := 0) (dK D_Plan_exchangedReason_0 28 rfl) rfl ?_
    refine bnE h (fun p5 e_p5 h => ?_)
    refine vg_cS (pc := 56) (As := [V (g S (tgt (tgt (tgt c0 0) 0) 3) a1.toNat), V p2]) (rest := []) (mc' := 0) (ms' := 0) (dK D_Plan_exchangedReason_0 29 rfl) K_Plan_146 (fitK rfl) rfl (leK rfl) (leK rfl) (leK rfl) (tf_Plan_isWrongSide (g_in _ _ _) h_p2 e_p5) (kcB ?_)
    refine vg_ifB_eq (pc := 59) (b := p5) (t := 64) (dK D_Plan_exchangedReason_0 30 rfl) rfl (fun hc6 => ?_) (fun hc6 => ?_)
    · replace h := ifP h hc6
      refine vg_iconst (pc := 62) (dK D_Plan_exchangedReason_0 31 rfl) ?_
      exact vg_iretI (pc := 63) (r := 5) (dK D_Plan_exchangedReason_0 32 rfl) rfl (leK rfl) (leK rfl) (fun _ => rfl) (by obtain rfl := Option.some.inj h; exact ⟨rfl, (inRk rfl), rfl⟩)
    · replace h := ifN h hc6
      refine vg_iconst (pc := 64) (dK D_Plan_exchangedReason_0 33 rfl) ?_
      refine g_istore (pc := 65) (ls2 := [(5, V 0), (4, V p2), (0, .ref c0), (1, V a1), (2, V a2), (3, V a3)]) (dK D_Plan_exchangedReason_0 34 rfl) (ltK rfl) rfl ?_
      refine bnSE h (fun p20 e_p20 h => ?_) (fun p19 e_p19 h => ?_)
      · refine gL_weak (ls' := [(0, .ref c0), (1, V a1), (2, V a2), (3, V a3), (4, V p2), (5, V 0)]) (sbc 2 rfl (sbc 3 rfl (sbc 4 rfl (sbc 5 rfl (sbc 1 rfl (sbc 0 rfl sbn)))))) ?_
        refine tl_Plan_exchangedReason_67 hc0 ha1 ha2 ha3 h_p2 (fun _ e => slr e) (fun p e hr_p20 => ?_) FU 0 e_p20 (inRk rfl)
        have e := Sum.inl.inj e
        subst e
        exact (by obtain rfl := Option.some.inj h; exact ⟨rfl, hr_p20, rfl⟩)
      · refine gL_weak (ls' := [(0, .ref c0), (1, V a1), (2, V a2), (3, V a3), (4, V p2), (5, V 0)]) (sbc 2 rfl (sbc 3 rfl (sbc 4 rfl (sbc 5 rfl (sbc 1 rfl (sbc 0 rfl sbn)))))) ?_
        refine tl_Plan_exchangedReason_67 hc0 ha1 ha2 ha3 h_p2 (fun p e => ?_) (fun _ e => srl e) FU 0 e_p19 (inRk rfl)
        have e := Sum.inr.inj e
        subst e
        refine vg_iconst (pc := 143) (dK D_Plan_exchangedReason_1 21 rfl) ?_
        exact vg_iretI (pc := 144) (r := 0) (dK D_Plan_exchangedReason_1 22 rfl) rfl (leK rfl) (leK rfl) (fun _ => rfl) (by obtain rfl := Option.some.inj h; exact ⟨rfl, (inRk rfl), rfl⟩)
def lb_Plan_exchangeReason_45 (c0 : Nat) (a1 : Int) (a2 : Int) (S : St) (go : Int × Int → Option (Int)) (a3 : Int) (a4 : Int) : Option (Int) := if (g S (tgt (tgt c0 0) 0) 7) ≤ a4 then (some a3) else (if a1 = a2 then (some a3) else (if 0 ≤ a4 ∧ a4 < 40 then (if (g S (tgt (tgt (tgt c0 0) 0) 6) a4.toNat) = a1 then (bnO (fn_Plan_exchangedReason c0 a4 a1 a2 S) fun p8 => bnO (fn_Plan_lowerReason a3 p8 S) fun p9 => nm (wr (a4 + 1)) fun v10 => go (p9, v10)) else (if (g S (tgt (tgt (tgt c0 0) 0) 6) a4.toNat) = a2 then (bnO (fn_Plan_exchangedReason c0 a4 a1 a2 S) fun p12 => bnO (fn_Plan_lowerReason a3 p12 S) fun p13 => nm (wr (a4 + 1)) fun v14 => go (p13, v14)) else (nm (wr (a4 + 1)) fun v11 => go (a3, v11)))) else none))
def lo_Plan_exchangeReason_45 (c0 : Nat) (a1 : Int) (a2 : Int) (S : St) : Nat → Int × Int → Option (Int) := lp fun go p => lb_Plan_exchangeReason_45 c0 a1 a2 S go p.1 p.2
theorem tl_Plan_exchangeReason_45 {E : EV} {X : XT} {c0 : Nat} (hc0 : HC X 4 c0) {a1 : Int} (ha1 : inR a1) {a2 : Int} (ha2 : inR a2) {S : St} {K : RK → PS → Prop} {q : Int} (hx : inR q → Go E M_Plan_exchangeReason 0 0 118 [(3, V q)] [] (WX X S) 0 0 K) : ∀ n a, lo_Plan_exchangeReason_45 c0 a1 a2 S n a = some q → inR a.1 → inR a.2 → Go E M_Plan_exchangeReason 0 0 45 [(0, .ref c0), (1, V a1), (2, V a2), (3, V a.1), (4, V a.2)] [] (WX X S) 0 0 K := by
  refine lp_ind (P := fun a : Int × Int => inR a.1 → inR a.2 → Go E M_Plan_exchangeReason 0 0 45 [(0, .ref c0), (1, V a1), (2, V a2), (3, V a.1), (4, V a.2)] [] (WX X S) 0 0 K) (fun go ih a h => ?_)
  obtain ⟨a3, a4⟩ := a
  intro ha3 ha4
  show Go E M_Plan_exchangeReason 0 0 45 [(0, .ref c0), (1, V a1), (2, V a2), (3, V a3), (4, V a4)] [] (WX X S) 0 0 K
  replace h : lb_Plan_exchangeReason_45 c0 a1 a2 S go a3 a4 = some q := h
  unfold lb_Plan_exchangeReason_45 at h
  refine g_iload (pc := 45) (j := 4) (dK D_Plan_exchangeReason_0 28 rfl) rfl ?_
  refine g_aloadn (pc := 47) (i0 := 0) (j := 0) (dK D_Plan_exchangeReason_0 29 rfl) rfl rfl ?_
  refine vg_getO (pc := 48) (ci := 4) (f := 0) (dK D_Plan_exchangeReason_0 30 rfl) q_290 hc0 (ltK rfl) (ltK rfl) rfl ?_
  refine vg_getO (pc := 51) (ci := 8) (f := 0) (dK D_Plan_exchangeReason_0 31 rfl) q_222 (hw_4_0 hc0) (ltK rfl) (ltK rfl) rfl ?_
  refine vg_getI (pc := 54) (ci := 0) (f := 7) (dK D_Plan_exchangeReason_0 32 rfl) q_107 (hw_8_0 (hw_4_0 hc0)) (ltK rfl) (ltK rfl) rfl ?_
  refine vg_icmp_ge (pc := 57) (t := 118) (dK D_Plan_exchangeReason_0 33 rfl) rfl ha4 (g_in _ _ _) (fun hc18 => ?_) (fun hc18 => ?_)
  · replace h := ifP h hc18
    obtain rfl := Option.some.inj h
    refine gL_weak (ls' := [(3, V a3)]) (sbc 3 rfl sbn) ?_
    exact hx ha3
  · replace h := ifN h hc18
    refine g_iloadn (pc := 60) (i0 := 1) (j := 1) (dK D_Plan_exchangeReason_0 34 rfl) rfl rfl ?_
    refine g_iloadn (pc := 61) (i0 := 2) (j := 2) (dK D_Plan_exchangeReason_0 35 rfl) rfl rfl ?_
    refine vg_icmp_eq (pc := 62) (t := 118) (dK D_Plan_exchangeReason_0 36 rfl) rfl ha1 ha2 (fun hc17 => ?_) (fun hc17 => ?_)
    · replace h := ifP h hc17
      obtain rfl := Option.some.inj h
      refine gL_weak (ls' := [(3, V a3)]) (sbc 3 rfl sbn) ?_
      exact hx ha3
    · replace h := ifN h hc17
      refine g_aloadn (pc := 65) (i0 := 0) (j := 0) (dK D_Plan_exchangeReason_0 37 rfl) rfl rfl ?_
      refine vg_getO (pc := 66) (ci := 4) (f := 0) (dK D_Plan_exchangeReason_0 38 rfl) q_290 hc0 (ltK rfl) (ltK rfl) rfl ?_
      refine vg_getO (pc := 69) (ci := 8) (f := 0) (dK D_Plan_exchangeReason_0 39 rfl) q_222 (hw_4_0 hc0) (ltK rfl) (ltK rfl) rfl ?_
      refine vg_getA (pc := 72) (ci := 0) (f := 6) (dK D_Plan_exchangeReason_0 40 rfl) q_102 (hw_8_0 (hw_4_0 hc0)) (ltK rfl) (ltK rfl) rfl ?_
      refine g_iload (pc := 75) (j := 4) (dK D_Plan_exchangeReason_0 41 rfl) rfl ?_
      refine gdE h (fun hi7 h => ?_)
      refine vg_iaload (pc := 77) (j := a4.toNat) (dK D_Plan_exchangeReason_0 42 rfl) (hw_0_6 (hw_8_0 (hw_4_0 hc0))) rfl hi7 rfl ?_
      refine g_iloadn (pc := 78) (i0 := 1) (j := 1) (dK D_Plan_exchangeReason_0 43 rfl) rfl rfl ?_
      refine vg_icmp_eq (pc := 79) (t := 99) (dK D_Plan_exchangeReason_0 44 rfl) rfl (g_in _ _ _) ha1 (fun hc16 => ?_) (fun hc16 => ?_)
      · replace h := ifP h hc16
        refine g_iloadn (pc := 99) (i0 := 3) (j := 3) (dK D_Plan_exchangeReason_1 3 rfl) rfl rfl ?_
        refine g_aloadn (pc := 100) (i0 := 0) (j := 0) (dK D_Plan_exchangeReason_1 4 rfl) rfl rfl ?_
        refine g_iload (pc := 101) (j := 4) (dK D_Plan_exchangeReason_1 5 rfl) rfl ?_
        refine g_iloadn (pc := 103) (i0 := 1) (j := 1) (dK D_Plan_exchangeReason_1 6 rfl) rfl rfl ?_
        refine g_iloadn (pc := 104) (i0 := 2) (j := 2) (dK D_Plan_exchangeReason_1 7 rfl) rfl rfl ?_
        refine bnE h (fun p8 e_p8 h => ?_)
        refine vg_cV (pc := 105) (As := [V a4, V a1, V a2]) (rest := [V a3]) (mc' := 0) (ms' := 0) (dK D_Plan_exchangeReason_1 8 rfl) K_Plan_163 (fitK rfl) (ltK rfl) hc0 rfl (leK rfl) (leK rfl) (leK rfl) (tf_Plan_exchangedReason hc0 ha4 ha1 ha2 e_p8) (kcI (fun h_p8 => ?_))
        refine bnE h (fun p9 e_p9 h => ?_)
        refine vg_cS (pc := 108) (As := [V a3, V p8]) (rest := []) (mc' := 0) (ms' := 0) (dK D_Plan_exchangeReason_1 9 rfl) K_Plan_159 (fitK rfl) rfl (leK rfl) (leK rfl) (leK rfl) (tf_Plan_lowerReason ha3 h_p8 e_p9) (kcI (fun h_p9 => ?_))
        refine g_istoren (pc := 111) (i0 := 3) (ls2 := [(3, V p9), (0, .ref c0), (1, V a1), (2, V a2), (4, V a4)]) (dK D_Plan_exchangeReason_1 10 rfl) rfl (ltK rfl) rfl ?_
        refine nmE h (fun v10 e_v10 h => ?_)
        refine vg_iinc (pc := 112) (j := 4) (a := a4) (z := 1) (ls2 := [(4, V v10), (3, V p9), (0, .ref c0), (1, V a1), (2, V a2)]) (dK D_Plan_exchangeReason_1 11 rfl) rfl e_v10 (ltK rfl) rfl ?_
        refine g_goto (pc := 115) (tgt := 45) (dK D_Plan_exchangeReason_1 12 rfl) rfl ?_
        refine gL_weak (ls' := [(0, .ref c0), (1, V a1), (2, V a2), (3, V p9), (4, V v10)]) (sbc 2 rfl (sbc 3 rfl (sbc 4 rfl (sbc 1 rfl (sbc 0 rfl sbn))))) ?_
        replace h := ih _ h
        exact h h_p9 (Vn_in e_v10)
      · replace h := ifN h hc16
        refine g_aloadn (pc := 82) (i0 := 0) (j := 0) (dK D_Plan_exchangeReason_0 45 rfl) rfl rfl ?_
        refine vg_getO (pc := 83) (ci := 4) (f := 0) (dK D_Plan_exchangeReason_0 46 rfl) q_290 hc0 (ltK rfl) (ltK rfl) rfl ?_
        refine vg_getO (pc := 86) (ci := 8) (f := 0) (dK D_Plan_exchangeReason_0 47 rfl) q_222 (hw_4_0 hc0) (ltK rfl) (ltK rfl) rfl ?_
        refine vg_getA (pc := 89) (ci := 0) (f := 6) (dK D_Plan_exchangeReason_0 48 rfl) q_102 (hw_8_0 (hw_4_0 hc0)) (ltK rfl) (ltK rfl) rfl ?_
        refine g_iload (pc := 92) (j := 4) (dK D_Plan_exchangeReason_0 49 rfl) rfl ?_
        refine vg_iaload (pc := 94) (j := a4.toNat) (dK D_Plan_exchangeReason_1 0 rfl) (hw_0_6 (hw_8_0 (hw_4_0 hc0))) rfl hi7 rfl ?_
        refine g_iloadn (pc := 95) (i0 := 2) (j := 2) (dK D_Plan_exchangeReason_1 1 rfl) rfl rfl ?_
        refine vg_icmp_ne (pc := 96) (t := 112) (dK D_Plan_exchangeReason_1 2 rfl) rfl (g_in _ _ _) ha2 (fun hc15 => ?_) (fun hc15 => ?_)
        · replace h := ifN h hc15
          refine nmE h (fun v11 e_v11 h => ?_)
          refine vg_iinc (pc := 112) (j := 4) (a := a4) (z := 1) (ls2 := [(4, V v11), (0, .ref c0), (1, V a1), (2, V a2), (3, V a3)]) (dK D_Plan_exchangeReason_1 11 rfl) rfl e_v11 (ltK rfl) rfl ?_
          refine g_goto (pc := 115) (tgt := 45) (dK D_Plan_exchangeReason_1 12 rfl) rfl ?_
          refine gL_weak (ls' := [(0, .ref c0), (1, V a1), (2, V a2), (3, V a3), (4, V v11)]) (sbc 1 rfl (sbc 2 rfl (sbc 3 rfl (sbc 4 rfl (sbc 0 rfl sbn))))) ?_
          replace h := ih _ h
          exact h ha3 (Vn_in e_v11)
        · replace h := ifP h hc15
          refine g_iloadn (pc := 99) (i0 := 3) (j := 3) (dK D_Plan_exchangeReason_1 3 rfl) rfl rfl ?_
          refine g_aloadn (pc := 100) (i0 := 0) (j := 0) (dK D_Plan_exchangeReason_1 4 rfl) rfl rfl ?_
          refine g_iload (pc := 101) (j := 4) (dK D_Plan_exchangeReason_1 5 rfl) rfl ?_
          refine g_iloadn (pc := 103) (i0 := 1) (j := 1) (dK D_Plan_exchangeReason_1 6 rfl) rfl rfl ?_
          refine g_iloadn (pc := 104) (i0 := 2) (j := 2) (dK D_Plan_exchangeReason_1 7 rfl) rfl rfl ?_
          refine bnE h (fun p12 e_p12 h => ?_)
          refine vg_cV (pc := 105) (As := [V a4, V a1, V a2]) (rest := [V a3]) (mc' := 0) (ms' := 0) (dK D_Plan_exchangeReason_1 8 rfl) K_Plan_163 (fitK rfl) (ltK rfl) hc0 rfl (leK rfl) (leK rfl) (leK rfl) (tf_Plan_exchangedReason hc0 ha4 ha1 ha2 e_p12) (kcI (fun h_p12 => ?_))
          refine bnE h (fun p13 e_p13 h => ?_)
          refine vg_cS (pc := 108) (As := [V a3, V p12]) (rest := []) (mc' := 0) (ms' := 0) (dK D_Plan_exchangeReason_1 9 rfl) K_Plan_159 (fitK rfl) rfl (leK rfl) (leK rfl) (leK rfl) (tf_Plan_lowerReason ha3 h_p12 e_p13) (kcI (fun h_p13 => ?_))
          refine g_istoren (pc := 111) (i0 := 3) (ls2 := [(3, V p13), (0, .ref c0), (1, V a1), (2, V a2), (4, V a4)]) (dK D_Plan_exchangeReason_1 10 rfl) rfl (ltK rfl) rfl ?_
          refine nmE h (fun v14 e_v14 h => ?_)
          refine vg_iinc (pc := 112) (j := 4) (a := a4) (z := 1) (ls2 := [(4, V v14), (3, V p13), (0, .ref c0), (1, V a1), (2, V a2)]) (dK D_Plan_exchangeReason_1 11 rfl) rfl e_v14 (ltK rfl) rfl ?_
          refine g_goto (pc := 115) (tgt := 45) (dK D_Plan_exchangeReason_1 12 rfl) rfl ?_
          refine gL_weak (ls' := [(0, .ref c0), (1, V a1), (2, V a2), (3, V p13), (4, V v14)]) (sbc 2 rfl (sbc 3 rfl (sbc 4 rfl (sbc 1 rfl (sbc 0 rfl sbn))))) ?_
          replace h := ih _ h
          exact h h_p13 (Vn_in e_v14)
def fn_Plan_exchangeReason (c0 : Nat) (a1 : Int) (a2 : Int) (S : St) : Option (Int) := bnO (fn_Plan_isPrinted c0 a1 S) fun p1 => if p1 = true then (some 2) else (bnO (fn_Plan_isPrinted c0 a2 S) fun p3 => if p3 = true then (some 2) else (if 0 ≤ a1 ∧ a1 < 65 then (if (g S (tgt c0 6) a1.toNat) = (-1) then (if 0 ≤ a2 ∧ a2 < 65 then (if (g S (tgt c0 6) a2.toNat) = (-1) then (bnO (lo_Plan_exchangeReason_45 c0 a1 a2 S FU (0, 0)) fun p19 => some p19) else (some 3)) else none) else (some 3)) else none))
theorem tf_Plan_exchangeReason {E : EV} {X : XT} {c0 : Nat} (hc0 : HC X 4 c0) {a1 : Int} (ha1 : inR a1) {a2 : Int} (ha2 : inR a2) {S : St} {q : Int} (h : fn_Plan_exchangeReason c0 a1 a2 S = some q) : Ev E M_Plan_exchangeReason [.ref c0, V a1, V a2] (WX X S) 0 0 (KI X q S) := by
  refine Ev.of pn_Plan rfl (leK rfl) ?_
  show Go E M_Plan_exchangeReason 0 0 0 [(0, .ref c0), (1, V a1), (2, V a2)] [] (WX X S) 0 0 (KI X q S)
  unfold fn_Plan_exchangeReason at h
  refine g_aloadn (pc := 0) (i0 := 0) (j := 0) (dK D_Plan_exchangeReason_0 0 rfl) rfl rfl ?_
  refine g_iloadn (pc := 1) (i0 := 1) (j := 1) (dK D_Plan_exchangeReason_0 1 rfl) rfl rfl ?_
  refine bnE h (fun p1 e_p1 h => ?_)
  refine vg_cV (pc := 2) (As := [V a1]) (rest := []) (mc' := 0) (ms' := 0) (dK D_Plan_exchangeReason_0 2 rfl) K_Plan_135 (fitK rfl) (ltK rfl) hc0 rfl (leK rfl) (leK rfl) (leK rfl) (tf_Plan_isPrinted hc0 ha1 e_p1) (kcB ?_)
  refine vg_ifB_ne (pc := 5) (b := p1) (t := 16) (dK D_Plan_exchangeReason_0 3 rfl) rfl (fun hc2 => ?_) (fun hc2 => ?_)
  · replace h := ifP h hc2
    refine vg_iconst (pc := 16) (dK D_Plan_exchangeReason_0 8 rfl) ?_
    exact vg_iretI (pc := 17) (r := 2) (dK D_Plan_exchangeReason_0 9 rfl) rfl (leK rfl) (leK rfl) (fun _ => rfl) (by obtain rfl := Option.some.inj h; exact ⟨rfl, (inRk rfl), rfl⟩)
  · replace h := ifN h hc2
    refine g_aloadn (pc := 8) (i0 := 0) (j := 0) (dK D_Plan_exchangeReason_0 4 rfl) rfl rfl ?_
    refine g_iloadn (pc := 9) (i0 := 2) (j := 2) (dK D_Plan_exchangeReason_0 5 rfl) rfl rfl ?_
    refine bnE h (fun p3 e_p3 h => ?_)
    refine vg_cV (pc := 10) (As := [V a2]) (rest := []) (mc' := 0) (ms' := 0) (dK D_Plan_exchangeReason_0 6 rfl) K_Plan_135 (fitK rfl) (ltK rfl) hc0 rfl (leK rfl) (leK rfl) (leK rfl) (tf_Plan_isPrinted hc0 ha2 e_p3) (kcB ?_)
    refine vg_ifB_eq (pc := 13) (b := p3) (t := 18) (dK D_Plan_exchangeReason_0 7 rfl) rfl (fun hc4 => ?_) (fun hc4 => ?_)
    · replace h := ifP h hc4
      refine vg_iconst (pc := 16) (dK D_Plan_exchangeReason_0 8 rfl) ?_
      exact vg_iretI (pc := 17) (r := 2) (dK D_Plan_exchangeReason_0 9 rfl) rfl (leK rfl) (leK rfl) (fun _ => rfl) (by obtain rfl := Option.some.inj h; exact ⟨rfl, (inRk rfl), rfl⟩)
    · replace h := ifN h hc4
      refine g_aloadn (pc := 18) (i0 := 0) (j := 0) (dK D_Plan_exchangeReason_0 10 rfl) rfl rfl ?_
      refine vg_getA (pc := 19) (ci := 4) (f := 6) (dK D_Plan_exchangeReason_0 11 rfl) q_309 hc0 (ltK rfl) (ltK rfl) rfl ?_
      refine g_iloadn (pc := 22) (i0 := 1) (j := 1) (dK D_Plan_exchangeReason_0 12 rfl) rfl rfl ?_
      refine gdE h (fun hi5 h => ?_)
      refine vg_iaload (pc := 23) (j := a1.toNat) (dK D_Plan_exchangeReason_0 13 rfl) (hw_4_6 hc0) rfl hi5 rfl ?_
      refine vg_iconst (pc := 24) (dK D_Plan_exchangeReason_0 14 rfl) ?_
      refine vg_icmp_ne (pc := 25) (t := 38) (dK D_Plan_exchangeReason_0 15 rfl) rfl (g_in _ _ _) (inRk rfl) (fun hc21 => ?_) (fun hc21 => ?_)
      · replace h := ifN h hc21
        refine vg_iconst (pc := 38) (dK D_Plan_exchangeReason_0 22 rfl) ?_
        exact vg_iretI (pc := 39) (r := 3) (dK D_Plan_exchangeReason_0 23 rfl) rfl (leK rfl) (leK rfl) (fun _ => rfl) (by obtain rfl := Option.some.inj h; exact ⟨rfl, (inRk rfl), rfl⟩)
      · replace h := ifP h hc21
        refine g_aloadn (pc := 28) (i0 := 0) (j := 0) (dK D_Plan_exchangeReason_0 16 rfl) rfl rfl ?_
        refine vg_getA (pc := 29) (ci := 4) (f := 6) (dK D_Plan_exchangeReason_0 17 rfl) q_309 hc0 (ltK rfl) (ltK rfl) rfl ?_
        refine g_iloadn (pc := 32) (i0 := 2) (j := 2) (dK D_Plan_exchangeReason_0 18 rfl) rfl rfl ?_
        refine gdE h (fun hi6 h => ?_)
        refine vg_iaload (pc := 33) (j := a2.toNat) (dK D_Plan_exchangeReason_0 19 rfl) (hw_4_6 hc0) rfl hi6 rfl ?_
        refine vg_iconst (pc := 34) (dK D_Plan_exchangeReason_0 20 rfl) ?_
        refine vg_icmp_eq (pc := 35) (t := 40) (dK D_Plan_exchangeReason_0 21 rfl) rfl (g_in _ _ _) (inRk rfl) (fun hc20 => ?_) (fun hc20 => ?_)
        · replace h := ifP h hc20
          refine vg_iconst (pc := 40) (dK D_Plan_exchangeReason_0 24 rfl) ?_
          refine g_istoren (pc := 41) (i0 := 3) (ls2 := [(3, V 0), (0, .ref c0), (1, V a1), (2, V a2)]) (dK D_Plan_exchangeReason_0 25 rfl) rfl (ltK rfl) rfl ?_
          refine vg_iconst (pc := 42) (dK D_Plan_exchangeReason_0 26 rfl) ?_
          refine g_istore (pc := 43) (ls2 := [(4, V 0), (3, V 0), (0, .ref c0), (1, V a1), (2, V a2)]) (dK D_Plan_exchangeReason_0 27 rfl) (ltK rfl) rfl ?_
          refine bnE h (fun p19 e_p19 h => ?_)
          refine gL_weak (ls' := [(0, .ref c0), (1, V a1), (2, V a2), (3, V 0), (4, V 0)]) (sbc 2 rfl (sbc 3 rfl (sbc 4 rfl (sbc 1 rfl (sbc 0 rfl sbn))))) ?_
          refine tl_Plan_exchangeReason_45 hc0 ha1 ha2 (fun hx3_p19 => ?_) FU (0, 0) e_p19 (inRk rfl) (inRk rfl)
          refine g_iloadn (pc := 118) (i0 := 3) (j := 0) (dK D_Plan_exchangeReason_1 13 rfl) rfl rfl ?_
          exact vg_iretI (pc := 119) (r := p19) (dK D_Plan_exchangeReason_1 14 rfl) rfl (leK rfl) (leK rfl) (fun _ => rfl) (by obtain rfl := Option.some.inj h; exact ⟨rfl, hx3_p19, rfl⟩)
        · replace h := ifN h hc20
          refine vg_iconst (pc := 38) (dK D_Plan_exchangeReason_0 22 rfl) ?_
          exact vg_iretI (pc := 39) (r := 3) (dK D_Plan_exchangeReason_0 23 rfl) rfl (leK rfl) (leK rfl) (fun _ => rfl) (by obtain rfl := Option.some.inj h; exact ⟨rfl, (inRk rfl), rfl⟩)
def lb_Searches_bestExchange_26 (c0 : Nat) (a3 : Int) (S : St) (go : Int × Int × Int → Option (Int × Int)) (a1 : Int) (a2 : Int) (a4 : Int) : Option (Int × Int) := if (g S (tgt c0 0) 1) < a4 then (some (a1, a2)) else (bnO (fn_Searches_fewerColorForms c0 a3 a4 S) fun p3 => if p3 ≤ a2 then (nm (wr (a4 + 1)) fun v4 => go (a1, a2, v4)) else (bnO (fn_Plan_exchangeReason (tgt c0 0) a3 a4 S) fun p5 => if p5 = 0 then (nm (wr ((100 * a3) + a4)) fun v7 => nm (wr (a4 + 1)) fun v8 => go (v7, p3, v8)) else (nm (wr (a4 + 1)) fun v6 => go (a1, a2, v6))))
def lo_Searches_bestExchange_26 (c0 : Nat) (a3 : Int) (S : St) : Nat → Int × Int × Int → Option (Int × Int) := lp fun go p => lb_Searches_bestExchange_26 c0 a3 S go p.1 p.2.1 p.2.2
theorem tl_Searches_bestExchange_26 {E : EV} {X : XT} {c0 : Nat} (hc0 : HC X 6 c0) {a3 : Int} (ha3 : inR a3) {S : St} {K : RK → PS → Prop} {q : Int × Int} (hx : inR q.1 → inR q.2 → Go E M_Searches_bestExchange 0 0 83 [(0, .ref c0), (1, V q.1), (2, V q.2), (3, V a3)] [] (WX X S) 0 0 K) : ∀ n a, lo_Searches_bestExchange_26 c0 a3 S n a = some q → inR a.1 → inR a.2.1 → inR a.2.2 → Go E M_Searches_bestExchange 0 0 26 [(0, .ref c0), (1, V a.1), (2, V a.2.1), (3, V a3), (4, V a.2.2)] [] (WX X S) 0 0 K := by
  refine lp_ind (P := fun a : Int × Int × Int => inR a.1 → inR a.2.1 → inR a.2.2 → Go E M_Searches_bestExchange 0 0 26 [(0, .ref c0), (1, V a.1), (2, V a.2.1), (3, V a3), (4, V a.2.2)] [] (WX X S) 0 0 K) (fun go ih a h => ?_)
  obtain ⟨a1, a2, a4⟩ := a
  intro ha1 ha2 ha4
  show Go E M_Searches_bestExchange 0 0 26 [(0, .ref c0), (1, V a1), (2, V a2), (3, V a3), (4, V a4)] [] (WX X S) 0 0 K
  replace h : lb_Searches_bestExchange_26 c0 a3 S go a1 a2 a4 = some q := h
  unfold lb_Searches_bestExchange_26 at h
  refine g_iload (pc := 26) (j := 4) (dK D_Searches_bestExchange 17 rfl) rfl ?_
  refine g_aloadn (pc := 28) (i0 := 0) (j := 0) (dK D_Searches_bestExchange 18 rfl) rfl rfl ?_
  refine vg_getO (pc := 29) (ci := 6) (f := 0) (dK D_Searches_bestExchange 19 rfl) q_368 hc0 (ltK rfl) (ltK rfl) rfl ?_
  refine vg_getI (pc := 32) (ci := 4) (f := 1) (dK D_Searches_bestExchange 20 rfl) q_295 (hw_6_0 hc0) (ltK rfl) (ltK rfl) rfl ?_
  refine vg_icmp_gt (pc := 35) (t := 83) (dK D_Searches_bestExchange 21 rfl) rfl ha4 (g_in _ _ _) (fun hc11 => ?_) (fun hc11 => ?_)
  · replace h := ifP h hc11
    obtain rfl := Option.some.inj h
    refine gL_weak (ls' := [(0, .ref c0), (1, V a1), (2, V a2), (3, V a3)]) (sbc 0 rfl (sbc 1 rfl (sbc 2 rfl (sbc 3 rfl sbn)))) ?_
    exact hx ha1 ha2
  · replace h := ifN h hc11
    refine g_aloadn (pc := 38) (i0 := 0) (j := 0) (dK D_Searches_bestExchange 22 rfl) rfl rfl ?_
    refine g_iloadn (pc := 39) (i0 := 3) (j := 3) (dK D_Searches_bestExchange 23 rfl) rfl rfl ?_
    refine g_iload (pc := 40) (j := 4) (dK D_Searches_bestExchange 24 rfl) rfl ?_
    refine bnE h (fun p3 e_p3 h => ?_)
    refine vg_cV (pc := 42) (As := [V a3, V a4]) (rest := []) (mc' := 0) (ms' := 0) (dK D_Searches_bestExchange 25 rfl) K_Searches_184 (fitK rfl) (ltK rfl) hc0 rfl (leK rfl) (leK rfl) (leK rfl) (tf_Searches_fewerColorForms hc0 ha3 ha4 e_p3) (kcI (fun h_p3 => ?_))
    refine g_istore (pc := 45) (ls2 := [(5, V p3), (0, .ref c0), (1, V a1), (2, V a2), (3, V a3), (4, V a4)]) (dK D_Searches_bestExchange 26 rfl) (ltK rfl) rfl ?_
    refine g_iload (pc := 47) (j := 0) (dK D_Searches_bestExchange 27 rfl) rfl ?_
    refine g_iloadn (pc := 49) (i0 := 2) (j := 3) (dK D_Searches_bestExchange 28 rfl) rfl rfl ?_
    refine vg_icmp_le (pc := 50) (t := 77) (dK D_Searches_bestExchange 29 rfl) rfl h_p3 ha2 (fun hc10 => ?_) (fun hc10 => ?_)
    · replace h := ifP h hc10
      refine nmE h (fun v4 e_v4 h => ?_)
      refine vg_iinc (pc := 77) (j := 5) (a := a4) (z := 1) (ls2 := [(4, V v4), (5, V p3), (0, .ref c0), (1, V a1), (2, V a2), (3, V a3)]) (dK D_Searches_bestExchange 44 rfl) rfl e_v4 (ltK rfl) rfl ?_
      refine g_goto (pc := 80) (tgt := 26) (dK D_Searches_bestExchange 45 rfl) rfl ?_
      refine gL_weak (ls' := [(0, .ref c0), (1, V a1), (2, V a2), (3, V a3), (4, V v4)]) (sbc 2 rfl (sbc 3 rfl (sbc 4 rfl (sbc 5 rfl (sbc 0 rfl sbn))))) ?_
      replace h := ih _ h
      exact h ha1 ha2 (Vn_in e_v4)
    · replace h := ifN h hc10
      refine g_aloadn (pc := 53) (i0 := 0) (j := 1) (dK D_Searches_bestExchange 30 rfl) rfl rfl ?_
      refine vg_getO (pc := 54) (ci := 6) (f := 0) (dK D_Searches_bestExchange 31 rfl) q_368 hc0 (ltK rfl) (ltK rfl) rfl ?_
      refine g_iloadn (pc := 57) (i0 := 3) (j := 4) (dK D_Searches_bestExchange 32 rfl) rfl rfl ?_
      refine g_iload (pc := 58) (j := 5) (dK D_Searches_bestExchange 33 rfl) rfl ?_
      refine bnE h (fun p5 e_p5 h => ?_)
      refine vg_cV (pc := 60) (As := [V a3, V a4]) (rest := []) (mc' := 0) (ms' := 0) (dK D_Searches_bestExchange 34 rfl) K_Searches_187 (fitK rfl) (ltK rfl) (hw_6_0 hc0) rfl (leK rfl) (leK rfl) (leK rfl) (tf_Plan_exchangeReason (hw_6_0 hc0) ha3 ha4 e_p5) (kcI (fun h_p5 => ?_))
      refine vg_if_ne (pc := 63) (t := 77) (dK D_Searches_bestExchange 35 rfl) rfl h_p5 (fun hc9 => ?_) (fun hc9 => ?_)
      · replace h := ifN h hc9
        refine nmE h (fun v6 e_v6 h => ?_)
        refine vg_iinc (pc := 77) (j := 5) (a := a4) (z := 1) (ls2 := [(4, V v6), (5, V p3), (0, .ref c0), (1, V a1), (2, V a2), (3, V a3)]) (dK D_Searches_bestExchange 44 rfl) rfl e_v6 (ltK rfl) rfl ?_
        refine g_goto (pc := 80) (tgt := 26) (dK D_Searches_bestExchange 45 rfl) rfl ?_
        refine gL_weak (ls' := [(0, .ref c0), (1, V a1), (2, V a2), (3, V a3), (4, V v6)]) (sbc 2 rfl (sbc 3 rfl (sbc 4 rfl (sbc 5 rfl (sbc 0 rfl sbn))))) ?_
        replace h := ih _ h
        exact h ha1 ha2 (Vn_in e_v6)
      · replace h := ifP h hc9
        refine vg_bipush (pc := 66) (dK D_Searches_bestExchange 36 rfl) rfl ?_
        refine g_iloadn (pc := 68) (i0 := 3) (j := 4) (dK D_Searches_bestExchange 37 rfl) rfl rfl ?_
        refine vg_imul (pc := 69) (dK D_Searches_bestExchange 38 rfl) ?_
        refine g_iload (pc := 70) (j := 5) (dK D_Searches_bestExchange 39 rfl) rfl ?_
        refine vg_iadd (pc := 72) (dK D_Searches_bestExchange 40 rfl) ?_
        refine nmE h (fun v7 e_v7 h => ?_)
        refine gtop e_v7 ?_
        refine g_istoren (pc := 73) (i0 := 1) (ls2 := [(1, V v7), (5, V p3), (0, .ref c0), (2, V a2), (3, V a3), (4, V a4)]) (dK D_Searches_bestExchange 41 rfl) rfl (ltK rfl) rfl ?_
        refine g_iload (pc := 74) (j := 1) (dK D_Searches_bestExchange 42 rfl) rfl ?_
        refine g_istoren (pc := 76) (i0 := 2) (ls2 := [(2, V p3), (1, V v7), (5, V p3), (0, .ref c0), (3, V a3), (4, V a4)]) (dK D_Searches_bestExchange 43 rfl) rfl (ltK rfl) rfl ?_
        refine nmE h (fun v8 e_v8 h => ?_)
        refine vg_iinc (pc := 77) (j := 5) (a := a4) (z := 1) (ls2 := [(4, V v8), (2, V p3), (1, V v7), (5, V p3), (0, .ref c0), (3, V a3)]) (dK D_Searches_bestExchange 44 rfl) rfl e_v8 (ltK rfl) rfl ?_
        refine g_goto (pc := 80) (tgt := 26) (dK D_Searches_bestExchange 45 rfl) rfl ?_
        refine gL_weak (ls' := [(0, .ref c0), (1, V v7), (2, V p3), (3, V a3), (4, V v8)]) (sbc 4 rfl (sbc 2 rfl (sbc 1 rfl (sbc 5 rfl (sbc 0 rfl sbn))))) ?_
        replace h := ih _ h
        exact h (Vn_in e_v7) h_p3 (Vn_in e_v8)
def lb_Searches_bestExchange_10 (c0 : Nat) (S : St) (go : Int × Int × Int → Option (Int)) (a1 : Int) (a2 : Int) (a3 : Int) : Option (Int) := if (g S (tgt c0 0) 1) < a3 then (some a1) else (nm (wr (a3 + 1)) fun v2 => bnO (lo_Searches_bestExchange_26 c0 a3 S FU (a1, a2, v2)) fun p12 => nm (wr (a3 + 1)) fun v13 => go (p12.1, p12.2, v13))
def lo_Searches_bestExchange_10 (c0 : Nat) (S : St) : Nat → Int × Int × Int → Option (Int) := lp fun go p => lb_Searches_bestExchange_10 c0 S go p.1 p.2.1 p.2.2
theorem tl_Searches_bestExchange_10 {E : EV} {X : XT} {c0 : Nat} (hc0 : HC X 6 c0) {S : St} {K : RK → PS → Prop} {q : Int} (hx : inR q → Go E M_Searches_bestExchange 0 0 89 [(1, V q)] [] (WX X S) 0 0 K) : ∀ n a, lo_Searches_bestExchange_10 c0 S n a = some q → inR a.1 → inR a.2.1 → inR a.2.2 → Go E M_Searches_bestExchange 0 0 10 [(0, .ref c0), (1, V a.1), (2, V a.2.1), (3, V a.2.2)] [] (WX X S) 0 0 K := by
  refine lp_ind (P := fun a : Int × Int × Int => inR a.1 → inR a.2.1 → inR a.2.2 → Go E M_Searches_bestExchange 0 0 10 [(0, .ref c0), (1, V a.1), (2, V a.2.1), (3, V a.2.2)] [] (WX X S) 0 0 K) (fun go ih a h => ?_)
  obtain ⟨a1, a2, a3⟩ := a
  intro ha1 ha2 ha3
  show Go E M_Searches_bestExchange 0 0 10 [(0, .ref c0), (1, V a1), (2, V a2), (3, V a3)] [] (WX X S) 0 0 K
  replace h : lb_Searches_bestExchange_10 c0 S go a1 a2 a3 = some q := h
  unfold lb_Searches_bestExchange_10 at h
  refine g_iloadn (pc := 10) (i0 := 3) (j := 3) (dK D_Searches_bestExchange 8 rfl) rfl rfl ?_
  refine g_aloadn (pc := 11) (i0 := 0) (j := 0) (dK D_Searches_bestExchange 9 rfl) rfl rfl ?_
  refine vg_getO (pc := 12) (ci := 6) (f := 0) (dK D_Searches_bestExchange 10 rfl) q_368 hc0 (ltK rfl) (ltK rfl) rfl ?_
  refine vg_getI (pc := 15) (ci := 4) (f := 1) (dK D_Searches_bestExchange 11 rfl) q_295 (hw_6_0 hc0) (ltK rfl) (ltK rfl) rfl ?_
  refine vg_icmp_gt (pc := 18) (t := 89) (dK D_Searches_bestExchange 12 rfl) rfl ha3 (g_in _ _ _) (fun hc14 => ?_) (fun hc14 => ?_)
  · replace h := ifP h hc14
    obtain rfl := Option.some.inj h
    refine gL_weak (ls' := [(1, V a1)]) (sbc 1 rfl sbn) ?_
    exact hx ha1
  · replace h := ifN h hc14
    refine g_iloadn (pc := 21) (i0 := 3) (j := 3) (dK D_Searches_bestExchange 13 rfl) rfl rfl ?_
    refine vg_iconst (pc := 22) (dK D_Searches_bestExchange 14 rfl) ?_
    refine vg_iadd (pc := 23) (dK D_Searches_bestExchange 15 rfl) ?_
    refine nmE h (fun v2 e_v2 h => ?_)
    refine gtop e_v2 ?_
    refine g_istore (pc := 24) (ls2 := [(4, V v2), (0, .ref c0), (1, V a1), (2, V a2), (3, V a3)]) (dK D_Searches_bestExchange 16 rfl) (ltK rfl) rfl ?_
    refine bnE h (fun p12 e_p12 h => ?_)
    refine gL_weak (ls' := [(0, .ref c0), (1, V a1), (2, V a2), (3, V a3), (4, V v2)]) (sbc 1 rfl (sbc 2 rfl (sbc 3 rfl (sbc 4 rfl (sbc 0 rfl sbn))))) ?_
    refine tl_Searches_bestExchange_26 hc0 ha3 (fun hx1_p12 hx2_p12 => ?_) FU (a1, a2, v2) e_p12 ha1 ha2 (Vn_in e_v2)
    refine nmE h (fun v13 e_v13 h => ?_)
    refine vg_iinc (pc := 83) (j := 3) (a := a3) (z := 1) (ls2 := [(3, V v13), (0, .ref c0), (1, V p12.1), (2, V p12.2)]) (dK D_Searches_bestExchange 46 rfl) rfl e_v13 (ltK rfl) rfl ?_
    refine g_goto (pc := 86) (tgt := 10) (dK D_Searches_bestExchange 47 rfl) rfl ?_
    refine gL_weak (ls' := [(0, .ref c0), (1, V p12.1), (2, V p12.2), (3, V v13)]) (sbc 1 rfl (sbc 2 rfl (sbc 3 rfl (sbc 0 rfl sbn)))) ?_
    replace h := ih _ h
    exact h hx1_p12 hx2_p12 (Vn_in e_v13)
def fn_Searches_bestExchange (c0 : Nat) (S : St) : Option (Int × St) := bnO (fn_Searches_countColorPages c0 S) fun p1 => bnO (lo_Searches_bestExchange_10 c0 p1 FU ((-1), 0, 1)) fun p15 => some (p15, p1)
theorem tf_Searches_bestExchange {E : EV} {X : XT} {c0 : Nat} (hc0 : HC X 6 c0) {S : St} {q : Int × St} (h : fn_Searches_bestExchange c0 S = some q) : Ev E M_Searches_bestExchange [.ref c0] (WX X S) 0 0 (KI X q.1 q.2) := by
  refine Ev.of pn_Searches rfl (leK rfl) ?_
  show Go E M_Searches_bestExchange 0 0 0 [(0, .ref c0)] [] (WX X S) 0 0 (KI X q.1 q.2)
  unfold fn_Searches_bestExchange at h
  refine g_aloadn (pc := 0) (i0 := 0) (j := 0) (dK D_Searches_bestExchange 0 rfl) rfl rfl ?_
  refine bnE h (fun p1 e_p1 h => ?_)
  refine vg_cV (pc := 1) (As := []) (rest := []) (mc' := 0) (ms' := 0) (dK D_Searches_bestExchange 1 rfl) K_Searches_181 (fitK rfl) (ltK rfl) hc0 rfl (leK rfl) (leK rfl) (leK rfl) (tf_Searches_countColorPages hc0 e_p1) (kcU ?_)
  refine vg_iconst (pc := 4) (dK D_Searches_bestExchange 2 rfl) ?_
  refine g_istoren (pc := 5) (i0 := 1) (ls2 := [(1, V (-1)), (0, .ref c0)]) (dK D_Searches_bestExchange 3 rfl) rfl (ltK rfl) rfl ?_
  refine vg_iconst (pc := 6) (dK D_Searches_bestExchange 4 rfl) ?_
  refine g_istoren (pc := 7) (i0 := 2) (ls2 := [(2, V 0), (1, V (-1)), (0, .ref c0)]) (dK D_Searches_bestExchange 5 rfl) rfl (ltK rfl) rfl ?_
  refine vg_iconst (pc := 8) (dK D_Searches_bestExchange 6 rfl) ?_
  refine g_istoren (pc := 9) (i0 := 3) (ls2 := [(3, V 1), (2, V 0), (1, V (-1)), (0, .ref c0)]) (dK D_Searches_bestExchange 7 rfl) rfl (ltK rfl) rfl ?_
  refine bnE h (fun p15 e_p15 h => ?_)
  refine gL_weak (ls' := [(0, .ref c0), (1, V (-1)), (2, V 0), (3, V 1)]) (sbc 3 rfl (sbc 2 rfl (sbc 1 rfl (sbc 0 rfl sbn)))) ?_
  refine tl_Searches_bestExchange_10 hc0 (fun hx1_p15 => ?_) FU ((-1), 0, 1) e_p15 (inRk rfl) (inRk rfl) (inRk rfl)
  refine g_iloadn (pc := 89) (i0 := 1) (j := 0) (dK D_Searches_bestExchange 48 rfl) rfl rfl ?_
  exact vg_iretI (pc := 90) (r := p15) (dK D_Searches_bestExchange 49 rfl) rfl (leK rfl) (leK rfl) (fun _ => rfl) (by obtain rfl := Option.some.inj h; exact ⟨rfl, hx1_p15, rfl⟩)
def fn_FP_betterExchange (c0 : Nat) (S : St) : Option (Int × St) := bnO (fn_Searches_bestExchange (tgt c0 2) S) fun p1 => some (p1.1, p1.2)
theorem tf_FP_betterExchange {E : EV} {X : XT} {c0 : Nat} (hc0 : HC X 10 c0) {S : St} {q : Int × St} (h : fn_FP_betterExchange c0 S = some q) : Ev E M_FP_betterExchange [.ref c0] (WX X S) 0 0 (KI X q.1 q.2) := by
  refine Ev.of pn_FP rfl (leK rfl) ?_
  show Go E M_FP_betterExchange 0 0 0 [(0, .ref c0)] [] (WX X S) 0 0 (KI X q.1 q.2)
  unfold fn_FP_betterExchange at h
  refine g_aloadn (pc := 0) (i0 := 0) (j := 0) (dK D_FP_betterExchange 0 rfl) rfl rfl ?_
  refine vg_getO (pc := 1) (ci := 10) (f := 2) (dK D_FP_betterExchange 1 rfl) q_424 hc0 (ltK rfl) (ltK rfl) rfl ?_
  refine bnE h (fun p1 e_p1 h => ?_)
  refine vg_cV (pc := 4) (As := []) (rest := []) (mc' := 0) (ms' := 0) (dK D_FP_betterExchange 2 rfl) K_FP_309 (fitK rfl) (ltK rfl) (hw_10_2 hc0) rfl (leK rfl) (leK rfl) (leK rfl) (tf_Searches_bestExchange (hw_10_2 hc0) e_p1) (kcI (fun h_p1 => ?_))
  exact vg_iretI (pc := 7) (r := p1.1) (dK D_FP_betterExchange 3 rfl) rfl (leK rfl) (leK rfl) (fun _ => rfl) (by obtain rfl := Option.some.inj h; exact ⟨rfl, h_p1, rfl⟩)
def fn_Searches_adIsOpen (c0 : Nat) (a1 : Int) (S : St) : Option (Bool) := if 0 ≤ a1 ∧ a1 < 40 then (if (g S (tgt (tgt (tgt c0 1) 0) 6) a1.toNat) = 0 then (some false) else (bnO (fn_Plan_isPrinted (tgt c0 0) (g S (tgt (tgt (tgt c0 1) 0) 6) a1.toNat) S) fun p2 => if p2 = true then (some false) else (some true))) else none
theorem tf_Searches_adIsOpen {E : EV} {X : XT} {c0 : Nat} (hc0 : HC X 6 c0) {a1 : Int} (ha1 : inR a1) {S : St} {q : Bool} (h : fn_Searches_adIsOpen c0 a1 S = some q) : Ev E M_Searches_adIsOpen [.ref c0, V a1] (WX X S) 0 0 (KB X q S) := by
  refine Ev.of pn_Searches rfl (leK rfl) ?_
  show Go E M_Searches_adIsOpen 0 0 0 [(0, .ref c0), (1, V a1)] [] (WX X S) 0 0 (KB X q S)
  unfold fn_Searches_adIsOpen at h
  refine g_aloadn (pc := 0) (i0 := 0) (j := 0) (dK D_Searches_adIsOpen 0 rfl) rfl rfl ?_
  refine vg_getO (pc := 1) (ci := 6) (f := 1) (dK D_Searches_adIsOpen 1 rfl) q_370 hc0 (ltK rfl) (ltK rfl) rfl ?_
  refine vg_getO (pc := 4) (ci := 8) (f := 0) (dK D_Searches_adIsOpen 2 rfl) q_221 (hw_6_1 hc0) (ltK rfl) (ltK rfl) rfl ?_
  refine vg_getA (pc := 7) (ci := 0) (f := 6) (dK D_Searches_adIsOpen 3 rfl) q_101 (hw_8_0 (hw_6_1 hc0)) (ltK rfl) (ltK rfl) rfl ?_
  refine g_iloadn (pc := 10) (i0 := 1) (j := 1) (dK D_Searches_adIsOpen 4 rfl) rfl rfl ?_
  refine gdE h (fun hi1 h => ?_)
  refine vg_iaload (pc := 11) (j := a1.toNat) (dK D_Searches_adIsOpen 5 rfl) (hw_0_6 (hw_8_0 (hw_6_1 hc0))) rfl hi1 rfl ?_
  refine vg_if_eq (pc := 12) (t := 41) (dK D_Searches_adIsOpen 6 rfl) rfl (g_in _ _ _) (fun hc4 => ?_) (fun hc4 => ?_)
  · replace h := ifP h hc4
    refine vg_iconst (pc := 41) (dK D_Searches_adIsOpen 19 rfl) ?_
    exact vg_iretB (pc := 42) (b := false) (dK D_Searches_adIsOpen 20 rfl) rfl (leK rfl) (leK rfl) (fun _ => rfl) (by obtain rfl := Option.some.inj h; exact ⟨rfl, rfl⟩)
  · replace h := ifN h hc4
    refine g_aloadn (pc := 15) (i0 := 0) (j := 0) (dK D_Searches_adIsOpen 7 rfl) rfl rfl ?_
    refine vg_getO (pc := 16) (ci := 6) (f := 0) (dK D_Searches_adIsOpen 8 rfl) q_368 hc0 (ltK rfl) (ltK rfl) rfl ?_
    refine g_aloadn (pc := 19) (i0 := 0) (j := 0) (dK D_Searches_adIsOpen 9 rfl) rfl rfl ?_
    refine vg_getO (pc := 20) (ci := 6) (f := 1) (dK D_Searches_adIsOpen 10 rfl) q_370 hc0 (ltK rfl) (ltK rfl) rfl ?_
    refine vg_getO (pc := 23) (ci := 8) (f := 0) (dK D_Searches_adIsOpen 11 rfl) q_221 (hw_6_1 hc0) (ltK rfl) (ltK rfl) rfl ?_
    refine vg_getA (pc := 26) (ci := 0) (f := 6) (dK D_Searches_adIsOpen 12 rfl) q_101 (hw_8_0 (hw_6_1 hc0)) (ltK rfl) (ltK rfl) rfl ?_
    refine g_iloadn (pc := 29) (i0 := 1) (j := 1) (dK D_Searches_adIsOpen 13 rfl) rfl rfl ?_
    refine vg_iaload (pc := 30) (j := a1.toNat) (dK D_Searches_adIsOpen 14 rfl) (hw_0_6 (hw_8_0 (hw_6_1 hc0))) rfl hi1 rfl ?_
    refine bnE h (fun p2 e_p2 h => ?_)
    refine vg_cV (pc := 31) (As := [V (g S (tgt (tgt (tgt c0 1) 0) 6) a1.toNat)]) (rest := []) (mc' := 0) (ms' := 0) (dK D_Searches_adIsOpen 15 rfl) K_Searches_127 (fitK rfl) (ltK rfl) (hw_6_0 hc0) rfl (leK rfl) (leK rfl) (leK rfl) (tf_Plan_isPrinted (hw_6_0 hc0) (g_in _ _ _) e_p2) (kcB ?_)
    refine vg_ifB_ne (pc := 34) (b := p2) (t := 41) (dK D_Searches_adIsOpen 16 rfl) rfl (fun hc3 => ?_) (fun hc3 => ?_)
    · replace h := ifP h hc3
      refine vg_iconst (pc := 41) (dK D_Searches_adIsOpen 19 rfl) ?_
      exact vg_iretB (pc := 42) (b := false) (dK D_Searches_adIsOpen 20 rfl) rfl (leK rfl) (leK rfl) (fun _ => rfl) (by obtain rfl := Option.some.inj h; exact ⟨rfl, rfl⟩)
    · replace h := ifN h hc3
      refine vg_iconst (pc := 37) (dK D_Searches_adIsOpen 17 rfl) ?_
      refine g_goto (pc := 38) (tgt := 42) (dK D_Searches_adIsOpen 18 rfl) rfl ?_
      exact vg_iretB (pc := 42) (b := true) (dK D_Searches_adIsOpen 20 rfl) rfl (leK rfl) (leK rfl) (fun _ => rfl) (by obtain rfl := Option.some.inj h; exact ⟨rfl, rfl⟩)
def fn_Plan_isLate (c0 : Nat) (a1 : Int) (S : St) : Option (Bool) := if a1 ≤ (g S (tgt c0 0) 6) then (some false) else (some true)
theorem tf_Plan_isLate {E : EV} {X : XT} {c0 : Nat} (hc0 : HC X 4 c0) {a1 : Int} (ha1 : inR a1) {S : St} {q : Bool} (h : fn_Plan_isLate c0 a1 S = some q) : Ev E M_Plan_isLate [.ref c0, V a1] (WX X S) 0 0 (KB X q S) := by
  refine Ev.of pn_Plan rfl (leK rfl) ?_
  show Go E M_Plan_isLate 0 0 0 [(0, .ref c0), (1, V a1)] [] (WX X S) 0 0 (KB X q S)
  unfold fn_Plan_isLate at h
  refine g_aloadn (pc := 0) (i0 := 0) (j := 0) (dK D_Plan_isLate 0 rfl) rfl rfl ?_
  refine vg_getO (pc := 1) (ci := 4) (f := 0) (dK D_Plan_isLate 1 rfl) q_290 hc0 (ltK rfl) (ltK rfl) rfl ?_
  refine vg_getI (pc := 4) (ci := 8) (f := 6) (dK D_Plan_isLate 2 rfl) q_245 (hw_4_0 hc0) (ltK rfl) (ltK rfl) rfl ?_
  refine g_iloadn (pc := 7) (i0 := 1) (j := 1) (dK D_Plan_isLate 3 rfl) rfl rfl ?_
  refine vg_icmp_ge (pc := 8) (t := 15) (dK D_Plan_isLate 4 rfl) rfl (g_in _ _ _) ha1 (fun hc1 => ?_) (fun hc1 => ?_)
  · replace h := ifP h hc1
    refine vg_iconst (pc := 15) (dK D_Plan_isLate 7 rfl) ?_
    exact vg_iretB (pc := 16) (b := false) (dK D_Plan_isLate 8 rfl) rfl (leK rfl) (leK rfl) (fun _ => rfl) (by obtain rfl := Option.some.inj h; exact ⟨rfl, rfl⟩)
  · replace h := ifN h hc1
    refine vg_iconst (pc := 11) (dK D_Plan_isLate 5 rfl) ?_
    refine g_goto (pc := 12) (tgt := 16) (dK D_Plan_isLate 6 rfl) rfl ?_
    exact vg_iretB (pc := 16) (b := true) (dK D_Plan_isLate 8 rfl) rfl (leK rfl) (leK rfl) (fun _ => rfl) (by obtain rfl := Option.some.inj h; exact ⟨rfl, rfl⟩)
def fn_Searches_rankOf (a0 : Int) (a1 : Int) (S : St) : Option (Int) := some (wr ((200 * a0) + a1))
theorem tf_Searches_rankOf {E : EV} {X : XT} {a0 : Int} (ha0 : inR a0) {a1 : Int} (ha1 : inR a1) {S : St} {q : Int} (h : fn_Searches_rankOf a0 a1 S = some q) : Ev E M_Searches_rankOf [V a0, V a1] (WX X S) 0 0 (KI X q S) := by
  refine Ev.of pn_Searches rfl (leK rfl) ?_
  show Go E M_Searches_rankOf 0 0 0 [(0, V a0), (1, V a1)] [] (WX X S) 0 0 (KI X q S)
  unfold fn_Searches_rankOf at h
  refine vg_sipush (pc := 0) (dK D_Searches_rankOf 0 rfl) rfl ?_
  refine g_iloadn (pc := 3) (i0 := 0) (j := 0) (dK D_Searches_rankOf 1 rfl) rfl rfl ?_
  refine vg_imul (pc := 4) (dK D_Searches_rankOf 2 rfl) ?_
  refine g_iloadn (pc := 5) (i0 := 1) (j := 1) (dK D_Searches_rankOf 3 rfl) rfl rfl ?_
  refine vg_iadd (pc := 6) (dK D_Searches_rankOf 4 rfl) ?_
  refine gtop (x := (wr ((200 * a0) + a1))) rfl ?_
  exact vg_iretI (pc := 7) (r := (wr ((200 * a0) + a1))) (dK D_Searches_rankOf 5 rfl) rfl (leK rfl) (leK rfl) (fun _ => rfl) (by obtain rfl := Option.some.inj h; exact ⟨rfl, (wr_in _), rfl⟩)
def fn_Searches_nearerRank (a0 : Int) (a1 : Int) (a2 : Int) (S : St) : Option (Int) := if a2 ≤ a0 then (some a1) else (if a1 = (-1) then (some a2) else (if a1 ≤ a2 then (some a1) else (some a2)))
theorem tf_Searches_nearerRank {E : EV} {X : XT} {a0 : Int} (ha0 : inR a0) {a1 : Int} (ha1 : inR a1) {a2 : Int} (ha2 : inR a2) {S : St} {q : Int} (h : fn_Searches_nearerRank a0 a1 a2 S = some q) : Ev E M_Searches_nearerRank [V a0, V a1, V a2] (WX X S) 0 0 (KI X q S) := by
  refine Ev.of pn_Searches rfl (leK rfl) ?_
  show Go E M_Searches_nearerRank 0 0 0 [(0, V a0), (1, V a1), (2, V a2)] [] (WX X S) 0 0 (KI X q S)
  unfold fn_Searches_nearerRank at h
  refine g_iloadn (pc := 0) (i0 := 2) (j := 2) (dK D_Searches_nearerRank 0 rfl) rfl rfl ?_
  refine g_iloadn (pc := 1) (i0 := 0) (j := 0) (dK D_Searches_nearerRank 1 rfl) rfl rfl ?_
  refine vg_icmp_le (pc := 2) (t := 19) (dK D_Searches_nearerRank 2 rfl) rfl ha2 ha0 (fun hc3 => ?_) (fun hc3 => ?_)
  · replace h := ifP h hc3
    refine g_iloadn (pc := 19) (i0 := 1) (j := 1) (dK D_Searches_nearerRank 11 rfl) rfl rfl ?_
    exact vg_iretI (pc := 20) (r := a1) (dK D_Searches_nearerRank 12 rfl) rfl (leK rfl) (leK rfl) (fun _ => rfl) (by obtain rfl := Option.some.inj h; exact ⟨rfl, ha1, rfl⟩)
  · replace h := ifN h hc3
    refine g_iloadn (pc := 5) (i0 := 1) (j := 1) (dK D_Searches_nearerRank 3 rfl) rfl rfl ?_
    refine vg_iconst (pc := 6) (dK D_Searches_nearerRank 4 rfl) ?_
    refine vg_icmp_eq (pc := 7) (t := 15) (dK D_Searches_nearerRank 5 rfl) rfl ha1 (inRk rfl) (fun hc2 => ?_) (fun hc2 => ?_)
    · replace h := ifP h hc2
      refine g_iloadn (pc := 15) (i0 := 2) (j := 2) (dK D_Searches_nearerRank 9 rfl) rfl rfl ?_
      refine g_goto (pc := 16) (tgt := 20) (dK D_Searches_nearerRank 10 rfl) rfl ?_
      exact vg_iretI (pc := 20) (r := a2) (dK D_Searches_nearerRank 12 rfl) rfl (leK rfl) (leK rfl) (fun _ => rfl) (by obtain rfl := Option.some.inj h; exact ⟨rfl, ha2, rfl⟩)
    · replace h := ifN h hc2
      refine g_iloadn (pc := 10) (i0 := 2) (j := 2) (dK D_Searches_nearerRank 6 rfl) rfl rfl ?_
      refine g_iloadn (pc := 11) (i0 := 1) (j := 1) (dK D_Searches_nearerRank 7 rfl) rfl rfl ?_
      refine vg_icmp_ge (pc := 12) (t := 19) (dK D_Searches_nearerRank 8 rfl) rfl ha2 ha1 (fun hc1 => ?_) (fun hc1 => ?_)
      · replace h := ifP h hc1
        refine g_iloadn (pc := 19) (i0 := 1) (j := 1) (dK D_Searches_nearerRank 11 rfl) rfl rfl ?_
        exact vg_iretI (pc := 20) (r := a1) (dK D_Searches_nearerRank 12 rfl) rfl (leK rfl) (leK rfl) (fun _ => rfl) (by obtain rfl := Option.some.inj h; exact ⟨rfl, ha1, rfl⟩)
      · replace h := ifN h hc1
        refine g_iloadn (pc := 15) (i0 := 2) (j := 2) (dK D_Searches_nearerRank 9 rfl) rfl rfl ?_
        refine g_goto (pc := 16) (tgt := 20) (dK D_Searches_nearerRank 10 rfl) rfl ?_
        exact vg_iretI (pc := 20) (r := a2) (dK D_Searches_nearerRank 12 rfl) rfl (leK rfl) (leK rfl) (fun _ => rfl) (by obtain rfl := Option.some.inj h; exact ⟨rfl, ha2, rfl⟩)
def fn_Plan_formAt (c0 : Nat) (a1 : Int) (S : St) : Option (Int) := if a1 < 1 then (some (-1)) else (if (g S c0 1) < a1 then (some (-1)) else (if 0 ≤ a1 ∧ a1 < 65 then (some (g S (tgt c0 3) a1.toNat)) else none))
theorem tf_Plan_formAt {E : EV} {X : XT} {c0 : Nat} (hc0 : HC X 4 c0) {a1 : Int} (ha1 : inR a1) {S : St} {q : Int} (h : fn_Plan_formAt c0 a1 S = some q) : Ev E M_Plan_formAt [.ref c0, V a1] (WX X S) 0 0 (KI X q S) := by
  refine Ev.of pn_Plan rfl (leK rfl) ?_
  show Go E M_Plan_formAt 0 0 0 [(0, .ref c0), (1, V a1)] [] (WX X S) 0 0 (KI X q S)
  unfold fn_Plan_formAt at h
  refine g_iloadn (pc := 0) (i0 := 1) (j := 1) (dK D_Plan_formAt 0 rfl) rfl rfl ?_
  refine vg_iconst (pc := 1) (dK D_Plan_formAt 1 rfl) ?_
  refine vg_icmp_lt (pc := 2) (t := 22) (dK D_Plan_formAt 2 rfl) rfl ha1 (inRk rfl) (fun hc3 => ?_) (fun hc3 => ?_)
  · replace h := ifP h hc3
    refine vg_iconst (pc := 22) (dK D_Plan_formAt 12 rfl) ?_
    exact vg_iretI (pc := 23) (r := (-1)) (dK D_Plan_formAt 13 rfl) rfl (leK rfl) (leK rfl) (fun _ => rfl) (by obtain rfl := Option.some.inj h; exact ⟨rfl, (inRk rfl), rfl⟩)
  · replace h := ifN h hc3
    refine g_iloadn (pc := 5) (i0 := 1) (j := 1) (dK D_Plan_formAt 3 rfl) rfl rfl ?_
    refine g_aloadn (pc := 6) (i0 := 0) (j := 0) (dK D_Plan_formAt 4 rfl) rfl rfl ?_
    refine vg_getI (pc := 7) (ci := 4) (f := 1) (dK D_Plan_formAt 5 rfl) q_294 hc0 (ltK rfl) (ltK rfl) rfl ?_
    refine vg_icmp_gt (pc := 10) (t := 22) (dK D_Plan_formAt 6 rfl) rfl ha1 (g_in _ _ _) (fun hc2 => ?_) (fun hc2 => ?_)
    · replace h := ifP h hc2
      refine vg_iconst (pc := 22) (dK D_Plan_formAt 12 rfl) ?_
      exact vg_iretI (pc := 23) (r := (-1)) (dK D_Plan_formAt 13 rfl) rfl (leK rfl) (leK rfl) (fun _ => rfl) (by obtain rfl := Option.some.inj h; exact ⟨rfl, (inRk rfl), rfl⟩)
    · replace h := ifN h hc2
      refine g_aloadn (pc := 13) (i0 := 0) (j := 0) (dK D_Plan_formAt 7 rfl) rfl rfl ?_
      refine vg_getA (pc := 14) (ci := 4) (f := 3) (dK D_Plan_formAt 8 rfl) q_302 hc0 (ltK rfl) (ltK rfl) rfl ?_
      refine g_iloadn (pc := 17) (i0 := 1) (j := 1) (dK D_Plan_formAt 9 rfl) rfl rfl ?_
      refine gdE h (fun hi1 h => ?_)
      refine vg_iaload (pc := 18) (j := a1.toNat) (dK D_Plan_formAt 10 rfl) (hw_4_3 hc0) rfl hi1 rfl ?_
      refine g_goto (pc := 19) (tgt := 23) (dK D_Plan_formAt 11 rfl) rfl ?_
      exact vg_iretI (pc := 23) (r := (g S (tgt c0 3) a1.toNat)) (dK D_Plan_formAt 13 rfl) rfl (leK rfl) (leK rfl) (fun _ => rfl) (by obtain rfl := Option.some.inj h; exact ⟨rfl, (g_in _ _ _), rfl⟩)
def lb_Plan_storyIsOn_16 (c0 : Nat) (a1 : Int) (a2 : Int) (a3 : Int) (S : St) (go : Int → Option ((Bool) ⊕ (Unit))) (a4 : Int) : Option ((Bool) ⊕ (Unit)) := if a3 = 0 then (some (.inr ())) else (if 0 ≤ a1 ∧ a1 < 10 then (if (g S (tgt (tgt (tgt c0 0) 1) 0) a1.toNat) ≤ a4 then (some (.inr ())) else (nm (wr (a3 + a4)) fun v3 => bnO (fn_Plan_formAt c0 v3 S) fun p4 => if p4 = a2 then (some (.inl true)) else (nm (wr (a4 + 1)) fun v5 => go v5))) else none)
def lo_Plan_storyIsOn_16 (c0 : Nat) (a1 : Int) (a2 : Int) (a3 : Int) (S : St) : Nat → Int → Option ((Bool) ⊕ (Unit)) := lp fun go p => lb_Plan_storyIsOn_16 c0 a1 a2 a3 S go p
theorem tl_Plan_storyIsOn_16 {E : EV} {X : XT} {c0 : Nat} (hc0 : HC X 4 c0) {a1 : Int} (ha1 : inR a1) {a2 : Int} (ha2 : inR a2) {a3 : Int} (ha3 : inR a3) {S : St} {K : RK → PS → Prop} {q : (Bool) ⊕ (Unit)} (hx : ∀ p, q = .inr p → Go E M_Plan_storyIsOn 0 0 57 [] [] (WX X S) 0 0 K) (hr : ∀ p, q = .inl p → K (.inl (some (V (bi p)))) (WX X S)) : ∀ n a, lo_Plan_storyIsOn_16 c0 a1 a2 a3 S n a = some q → inR a → Go E M_Plan_storyIsOn 0 0 16 [(0, .ref c0), (1, V a1), (2, V a2), (3, V a3), (4, V a)] [] (WX X S) 0 0 K := by
  refine lp_ind (P := fun a : Int => inR a → Go E M_Plan_storyIsOn 0 0 16 [(0, .ref c0), (1, V a1), (2, V a2), (3, V a3), (4, V a)] [] (WX X S) 0 0 K) (fun go ih a4 h => ?_)
  intro ha4
  show Go E M_Plan_storyIsOn 0 0 16 [(0, .ref c0), (1, V a1), (2, V a2), (3, V a3), (4, V a4)] [] (WX X S) 0 0 K
  replace h : lb_Plan_storyIsOn_16 c0 a1 a2 a3 S go a4 = some q := h
  unfold lb_Plan_storyIsOn_16 at h
  refine g_iloadn (pc := 16) (i0 := 3) (j := 3) (dK D_Plan_storyIsOn 9 rfl) rfl rfl ?_
  refine vg_if_eq (pc := 17) (t := 57) (dK D_Plan_storyIsOn 10 rfl) rfl ha3 (fun hc8 => ?_) (fun hc8 => ?_)
  · replace h := ifP h hc8
    refine gL_weak (ls' := []) sbn ?_
    exact hx _ (Option.some.inj h).symm 
  · replace h := ifN h hc8
    refine g_iload (pc := 20) (j := 4) (dK D_Plan_storyIsOn 11 rfl) rfl ?_
    refine g_aloadn (pc := 22) (i0 := 0) (j := 0) (dK D_Plan_storyIsOn 12 rfl) rfl rfl ?_
    refine vg_getO (pc := 23) (ci := 4) (f := 0) (dK D_Plan_storyIsOn 13 rfl) q_290 hc0 (ltK rfl) (ltK rfl) rfl ?_
    refine vg_getO (pc := 26) (ci := 8) (f := 1) (dK D_Plan_storyIsOn 14 rfl) q_226 (hw_4_0 hc0) (ltK rfl) (ltK rfl) rfl ?_
    refine vg_getA (pc := 29) (ci := 9) (f := 0) (dK D_Plan_storyIsOn 15 rfl) q_135 (hw_8_1 (hw_4_0 hc0)) (ltK rfl) (ltK rfl) rfl ?_
    refine g_iloadn (pc := 32) (i0 := 1) (j := 1) (dK D_Plan_storyIsOn 16 rfl) rfl rfl ?_
    refine gdE h (fun hi2 h => ?_)
    refine vg_iaload (pc := 33) (j := a1.toNat) (dK D_Plan_storyIsOn 17 rfl) (hw_9_0 (hw_8_1 (hw_4_0 hc0))) rfl hi2 rfl ?_
    refine vg_icmp_ge (pc := 34) (t := 57) (dK D_Plan_storyIsOn 18 rfl) rfl ha4 (g_in _ _ _) (fun hc7 => ?_) (fun hc7 => ?_)
    · replace h := ifP h hc7
      refine gL_weak (ls' := []) sbn ?_
      exact hx _ (Option.some.inj h).symm 
    · replace h := ifN h hc7
      refine g_aloadn (pc := 37) (i0 := 0) (j := 0) (dK D_Plan_storyIsOn 19 rfl) rfl rfl ?_
      refine g_iloadn (pc := 38) (i0 := 3) (j := 3) (dK D_Plan_storyIsOn 20 rfl) rfl rfl ?_
      refine g_iload (pc := 39) (j := 4) (dK D_Plan_storyIsOn 21 rfl) rfl ?_
      refine vg_iadd (pc := 41) (dK D_Plan_storyIsOn 22 rfl) ?_
      refine nmE h (fun v3 e_v3 h => ?_)
      refine gtop e_v3 ?_
      refine bnE h (fun p4 e_p4 h => ?_)
      refine vg_cV (pc := 42) (As := [V v3]) (rest := []) (mc' := 0) (ms' := 0) (dK D_Plan_storyIsOn 23 rfl) K_Plan_173 (fitK rfl) (ltK rfl) hc0 rfl (leK rfl) (leK rfl) (leK rfl) (tf_Plan_formAt hc0 (Vn_in e_v3) e_p4) (kcI (fun h_p4 => ?_))
      refine g_iloadn (pc := 45) (i0 := 2) (j := 2) (dK D_Plan_storyIsOn 24 rfl) rfl rfl ?_
      refine vg_icmp_ne (pc := 46) (t := 51) (dK D_Plan_storyIsOn 25 rfl) rfl h_p4 ha2 (fun hc6 => ?_) (fun hc6 => ?_)
      · replace h := ifN h hc6
        refine nmE h (fun v5 e_v5 h => ?_)
        refine vg_iinc (pc := 51) (j := 4) (a := a4) (z := 1) (ls2 := [(4, V v5), (0, .ref c0), (1, V a1), (2, V a2), (3, V a3)]) (dK D_Plan_storyIsOn 28 rfl) rfl e_v5 (ltK rfl) rfl ?_
        refine g_goto (pc := 54) (tgt := 16) (dK D_Plan_storyIsOn 29 rfl) rfl ?_
        refine gL_weak (ls' := [(0, .ref c0), (1, V a1), (2, V a2), (3, V a3), (4, V v5)]) (sbc 1 rfl (sbc 2 rfl (sbc 3 rfl (sbc 4 rfl (sbc 0 rfl sbn))))) ?_
        replace h := ih _ h
        exact h (Vn_in e_v5)
      · replace h := ifP h hc6
        refine vg_iconst (pc := 49) (dK D_Plan_storyIsOn 26 rfl) ?_
        exact vg_iretB (pc := 50) (b := true) (dK D_Plan_storyIsOn 27 rfl) rfl (leK rfl) (leK rfl) (fun _ => rfl) (hr _ (Option.some.inj h).symm)
def fn_Plan_storyIsOn (c0 : Nat) (a1 : Int) (a2 : Int) (S : St) : Option (Bool) := if 0 ≤ a1 ∧ a1 < 10 then (bnS (lo_Plan_storyIsOn_16 c0 a1 a2 (g S (tgt (tgt (tgt c0 0) 1) 4) a1.toNat) S FU 0) (fun p10 => some p10) fun p9 => some false) else none
theorem tf_Plan_storyIsOn {E : EV} {X : XT} {c0 : Nat} (hc0 : HC X 4 c0) {a1 : Int} (ha1 : inR a1) {a2 : Int} (ha2 : inR a2) {S : St} {q : Bool} (h : fn_Plan_storyIsOn c0 a1 a2 S = some q) : Ev E M_Plan_storyIsOn [.ref c0, V a1, V a2] (WX X S) 0 0 (KB X q S) := by
  refine Ev.of pn_Plan rfl (leK rfl) ?_
  show Go E M_Plan_storyIsOn 0 0 0 [(0, .ref c0), (1, V a1), (2, V a2)] [] (WX X S) 0 0 (KB X q S)
  unfold fn_Plan_storyIsOn at h
  refine g_aloadn (pc := 0) (i0 := 0) (j := 0) (dK D_Plan_storyIsOn 0 rfl) rfl rfl ?_
  refine vg_getO (pc := 1) (ci := 4) (f := 0) (dK D_Plan_storyIsOn 1 rfl) q_290 hc0 (ltK rfl) (ltK rfl) rfl ?_
  refine vg_getO (pc := 4) (ci := 8) (f := 1) (dK D_Plan_storyIsOn 2 rfl) q_226 (hw_4_0 hc0) (ltK rfl) (ltK rfl) rfl ?_
  refine vg_getA (pc := 7) (ci := 9) (f := 4) (dK D_Plan_storyIsOn 3 rfl) q_150 (hw_8_1 (hw_4_0 hc0)) (ltK rfl) (ltK rfl) rfl ?_
  refine g_iloadn (pc := 10) (i0 := 1) (j := 1) (dK D_Plan_storyIsOn 4 rfl) rfl rfl ?_
  refine gdE h (fun hi1 h => ?_)
  refine vg_iaload (pc := 11) (j := a1.toNat) (dK D_Plan_storyIsOn 5 rfl) (hw_9_4 (hw_8_1 (hw_4_0 hc0))) rfl hi1 rfl ?_
  refine g_istoren (pc := 12) (i0 := 3) (ls2 := [(3, V (g S (tgt (tgt (tgt c0 0) 1) 4) a1.toNat)), (0, .ref c0), (1, V a1), (2, V a2)]) (dK D_Plan_storyIsOn 6 rfl) rfl (ltK rfl) rfl ?_
  refine vg_iconst (pc := 13) (dK D_Plan_storyIsOn 7 rfl) ?_
  refine g_istore (pc := 14) (ls2 := [(4, V 0), (3, V (g S (tgt (tgt (tgt c0 0) 1) 4) a1.toNat)), (0, .ref c0), (1, V a1), (2, V a2)]) (dK D_Plan_storyIsOn 8 rfl) (ltK rfl) rfl ?_
  refine bnSE h (fun p10 e_p10 h => ?_) (fun p9 e_p9 h => ?_)
  · refine gL_weak (ls' := [(0, .ref c0), (1, V a1), (2, V a2), (3, V (g S (tgt (tgt (tgt c0 0) 1) 4) a1.toNat)), (4, V 0)]) (sbc 2 rfl (sbc 3 rfl (sbc 4 rfl (sbc 1 rfl (sbc 0 rfl sbn))))) ?_
    refine tl_Plan_storyIsOn_16 hc0 ha1 ha2 (g_in _ _ _) (fun _ e => slr e) (fun p e => ?_) FU 0 e_p10 (inRk rfl)
    have e := Sum.inl.inj e
    subst e
    exact (by obtain rfl := Option.some.inj h; exact ⟨rfl, rfl⟩)
  · refine gL_weak (ls' := [(0, .ref c0), (1, V a1), (2, V a2), (3, V (g S (tgt (tgt (tgt c0 0) 1) 4) a1.toNat)), (4, V 0)]) (sbc 2 rfl (sbc 3 rfl (sbc 4 rfl (sbc 1 rfl (sbc 0 rfl sbn))))) ?_
    refine tl_Plan_storyIsOn_16 hc0 ha1 ha2 (g_in _ _ _) (fun p e => ?_) (fun _ e => srl e) FU 0 e_p9 (inRk rfl)
    have e := Sum.inr.inj e
    subst e
    refine vg_iconst (pc := 57) (dK D_Plan_storyIsOn 30 rfl) ?_
    exact vg_iretB (pc := 58) (b := false) (dK D_Plan_storyIsOn 31 rfl) rfl (leK rfl) (leK rfl) (fun _ => rfl) (by obtain rfl := Option.some.inj h; exact ⟨rfl, rfl⟩)
def lb_Plan_storyIsOnFormThat_2 (c0 : Nat) (a1 : Int) (a2 : Int) (S : St) (go : Int → Option ((Bool) ⊕ (Unit))) (a3 : Int) : Option ((Bool) ⊕ (Unit)) := if (g S c0 2) ≤ a3 then (some (.inr ())) else (if 0 ≤ a3 ∧ a3 < 8 then (if (g S (tgt (tgt (tgt c0 0) 3) 1) a3.toNat) = a2 then (bnO (fn_Plan_storyIsOn c0 a1 a3 S) fun p3 => if p3 = true then (some (.inl true)) else (nm (wr (a3 + 1)) fun v5 => go v5)) else (nm (wr (a3 + 1)) fun v2 => go v2)) else none)
def lo_Plan_storyIsOnFormThat_2 (c0 : Nat) (a1 : Int) (a2 : Int) (S : St) : Nat → Int → Option ((Bool) ⊕ (Unit)) := lp fun go p => lb_Plan_storyIsOnFormThat_2 c0 a1 a2 S go p
theorem tl_Plan_storyIsOnFormThat_2 {E : EV} {X : XT} {c0 : Nat} (hc0 : HC X 4 c0) {a1 : Int} (ha1 : inR a1) {a2 : Int} (ha2 : inR a2) {S : St} {K : RK → PS → Prop} {q : (Bool) ⊕ (Unit)} (hx : ∀ p, q = .inr p → Go E M_Plan_storyIsOnFormThat 0 0 43 [] [] (WX X S) 0 0 K) (hr : ∀ p, q = .inl p → K (.inl (some (V (bi p)))) (WX X S)) : ∀ n a, lo_Plan_storyIsOnFormThat_2 c0 a1 a2 S n a = some q → inR a → Go E M_Plan_storyIsOnFormThat 0 0 2 [(0, .ref c0), (1, V a1), (2, V a2), (3, V a)] [] (WX X S) 0 0 K := by
  refine lp_ind (P := fun a : Int => inR a → Go E M_Plan_storyIsOnFormThat 0 0 2 [(0, .ref c0), (1, V a1), (2, V a2), (3, V a)] [] (WX X S) 0 0 K) (fun go ih a3 h => ?_)
  intro ha3
  show Go E M_Plan_storyIsOnFormThat 0 0 2 [(0, .ref c0), (1, V a1), (2, V a2), (3, V a3)] [] (WX X S) 0 0 K
  replace h : lb_Plan_storyIsOnFormThat_2 c0 a1 a2 S go a3 = some q := h
  unfold lb_Plan_storyIsOnFormThat_2 at h
  refine g_iloadn (pc := 2) (i0 := 3) (j := 3) (dK D_Plan_storyIsOnFormThat 2 rfl) rfl rfl ?_
  refine g_aloadn (pc := 3) (i0 := 0) (j := 0) (dK D_Plan_storyIsOnFormThat 3 rfl) rfl rfl ?_
  refine vg_getI (pc := 4) (ci := 4) (f := 2) (dK D_Plan_storyIsOnFormThat 4 rfl) q_298 hc0 (ltK rfl) (ltK rfl) rfl ?_
  refine vg_icmp_ge (pc := 7) (t := 43) (dK D_Plan_storyIsOnFormThat 5 rfl) rfl ha3 (g_in _ _ _) (fun hc7 => ?_) (fun hc7 => ?_)
  · replace h := ifP h hc7
    refine gL_weak (ls' := []) sbn ?_
    exact hx _ (Option.some.inj h).symm 
  · replace h := ifN h hc7
    refine g_aloadn (pc := 10) (i0 := 0) (j := 0) (dK D_Plan_storyIsOnFormThat 6 rfl) rfl rfl ?_
    refine vg_getO (pc := 11) (ci := 4) (f := 0) (dK D_Plan_storyIsOnFormThat 7 rfl) q_290 hc0 (ltK rfl) (ltK rfl) rfl ?_
    refine vg_getO (pc := 14) (ci := 8) (f := 3) (dK D_Plan_storyIsOnFormThat 8 rfl) q_235 (hw_4_0 hc0) (ltK rfl) (ltK rfl) rfl ?_
    refine vg_getA (pc := 17) (ci := 2) (f := 1) (dK D_Plan_storyIsOnFormThat 9 rfl) q_206 (hw_8_3 (hw_4_0 hc0)) (ltK rfl) (ltK rfl) rfl ?_
    refine g_iloadn (pc := 20) (i0 := 3) (j := 3) (dK D_Plan_storyIsOnFormThat 10 rfl) rfl rfl ?_
    refine gdE h (fun hi1 h => ?_)
    refine vg_iaload (pc := 21) (j := a3.toNat) (dK D_Plan_storyIsOnFormThat 11 rfl) (hw_2_1 (hw_8_3 (hw_4_0 hc0))) rfl hi1 rfl ?_
    refine g_iloadn (pc := 22) (i0 := 2) (j := 2) (dK D_Plan_storyIsOnFormThat 12 rfl) rfl rfl ?_
    refine vg_icmp_ne (pc := 23) (t := 37) (dK D_Plan_storyIsOnFormThat 13 rfl) rfl (g_in _ _ _) ha2 (fun hc6 => ?_) (fun hc6 => ?_)
    · replace h := ifN h hc6
      refine nmE h (fun v2 e_v2 h => ?_)
      refine vg_iinc (pc := 37) (j := 3) (a := a3) (z := 1) (ls2 := [(3, V v2), (0, .ref c0), (1, V a1), (2, V a2)]) (dK D_Plan_storyIsOnFormThat 21 rfl) rfl e_v2 (ltK rfl) rfl ?_
      refine g_goto (pc := 40) (tgt := 2) (dK D_Plan_storyIsOnFormThat 22 rfl) rfl ?_
      refine gL_weak (ls' := [(0, .ref c0), (1, V a1), (2, V a2), (3, V v2)]) (sbc 1 rfl (sbc 2 rfl (sbc 3 rfl (sbc 0 rfl sbn)))) ?_
      replace h := ih _ h
      exact h (Vn_in e_v2)
    · replace h := ifP h hc6
      refine g_aloadn (pc := 26) (i0 := 0) (j := 0) (dK D_Plan_storyIsOnFormThat 14 rfl) rfl rfl ?_
      refine g_iloadn (pc := 27) (i0 := 1) (j := 1) (dK D_Plan_storyIsOnFormThat 15 rfl) rfl rfl ?_
      refine g_iloadn (pc := 28) (i0 := 3) (j := 3) (dK D_Plan_storyIsOnFormThat 16 rfl) rfl rfl ?_
      refine bnE h (fun p3 e_p3 h => ?_)
      refine vg_cV (pc := 29) (As := [V a1, V a3]) (rest := []) (mc' := 0) (ms' := 0) (dK D_Plan_storyIsOnFormThat 17 rfl) K_Plan_180 (fitK rfl) (ltK rfl) hc0 rfl (leK rfl) (leK rfl) (leK rfl) (tf_Plan_storyIsOn hc0 ha1 ha3 e_p3) (kcB ?_)
      refine vg_ifB_eq (pc := 32) (b := p3) (t := 37) (dK D_Plan_storyIsOnFormThat 18 rfl) rfl (fun hc4 => ?_) (fun hc4 => ?_)
      · replace h := ifP h hc4
        refine vg_iconst (pc := 35) (dK D_Plan_storyIsOnFormThat 19 rfl) ?_
        exact vg_iretB (pc := 36) (b := true) (dK D_Plan_storyIsOnFormThat 20 rfl) rfl (leK rfl) (leK rfl) (fun _ => rfl) (hr _ (Option.some.inj h).symm)
      · replace h := ifN h hc4
        refine nmE h (fun v5 e_v5 h => ?_)
        refine vg_iinc (pc := 37) (j := 3) (a := a3) (z := 1) (ls2 := [(3, V v5), (0, .ref c0), (1, V a1), (2, V a2)]) (dK D_Plan_storyIsOnFormThat 21 rfl) rfl e_v5 (ltK rfl) rfl ?_
        refine g_goto (pc := 40) (tgt := 2) (dK D_Plan_storyIsOnFormThat 22 rfl) rfl ?_
        refine gL_weak (ls' := [(0, .ref c0), (1, V a1), (2, V a2), (3, V v5)]) (sbc 1 rfl (sbc 2 rfl (sbc 3 rfl (sbc 0 rfl sbn)))) ?_
        replace h := ih _ h
        exact h (Vn_in e_v5)
def fn_Plan_storyIsOnFormThat (c0 : Nat) (a1 : Int) (a2 : Int) (S : St) : Option (Bool) := bnS (lo_Plan_storyIsOnFormThat_2 c0 a1 a2 S FU 0) (fun p9 => some p9) fun p8 => some false
theorem tf_Plan_storyIsOnFormThat {E : EV} {X : XT} {c0 : Nat} (hc0 : HC X 4 c0) {a1 : Int} (ha1 : inR a1) {a2 : Int} (ha2 : inR a2) {S : St} {q : Bool} (h : fn_Plan_storyIsOnFormThat c0 a1 a2 S = some q) : Ev E M_Plan_storyIsOnFormThat [.ref c0, V a1, V a2] (WX X S) 0 0 (KB X q S) := by
  refine Ev.of pn_Plan rfl (leK rfl) ?_
  show Go E M_Plan_storyIsOnFormThat 0 0 0 [(0, .ref c0), (1, V a1), (2, V a2)] [] (WX X S) 0 0 (KB X q S)
  unfold fn_Plan_storyIsOnFormThat at h
  refine vg_iconst (pc := 0) (dK D_Plan_storyIsOnFormThat 0 rfl) ?_
  refine g_istoren (pc := 1) (i0 := 3) (ls2 := [(3, V 0), (0, .ref c0), (1, V a1), (2, V a2)]) (dK D_Plan_storyIsOnFormThat 1 rfl) rfl (ltK rfl) rfl ?_
  refine bnSE h (fun p9 e_p9 h => ?_) (fun p8 e_p8 h => ?_)
  · refine gL_weak (ls' := [(0, .ref c0), (1, V a1), (2, V a2), (3, V 0)]) (sbc 1 rfl (sbc 2 rfl (sbc 3 rfl (sbc 0 rfl sbn)))) ?_
    refine tl_Plan_storyIsOnFormThat_2 hc0 ha1 ha2 (fun _ e => slr e) (fun p e => ?_) FU 0 e_p9 (inRk rfl)
    have e := Sum.inl.inj e
    subst e
    exact (by obtain rfl := Option.some.inj h; exact ⟨rfl, rfl⟩)
  · refine gL_weak (ls' := [(0, .ref c0), (1, V a1), (2, V a2), (3, V 0)]) (sbc 1 rfl (sbc 2 rfl (sbc 3 rfl (sbc 0 rfl sbn)))) ?_
    refine tl_Plan_storyIsOnFormThat_2 hc0 ha1 ha2 (fun p e => ?_) (fun _ e => srl e) FU 0 e_p8 (inRk rfl)
    have e := Sum.inr.inj e
    subst e
    refine vg_iconst (pc := 43) (dK D_Plan_storyIsOnFormThat 23 rfl) ?_
    exact vg_iretB (pc := 44) (b := false) (dK D_Plan_storyIsOnFormThat 24 rfl) rfl (leK rfl) (leK rfl) (fun _ => rfl) (by obtain rfl := Option.some.inj h; exact ⟨rfl, rfl⟩)
def fn_Plan_storyIsOpen (c0 : Nat) (a1 : Int) (S : St) : Option (Bool) := bnO (fn_Plan_storyIsOnFormThat c0 a1 0 S) fun p1 => some p1
theorem tf_Plan_storyIsOpen {E : EV} {X : XT} {c0 : Nat} (hc0 : HC X 4 c0) {a1 : Int} (ha1 : inR a1) {S : St} {q : Bool} (h : fn_Plan_storyIsOpen c0 a1 S = some q) : Ev E M_Plan_storyIsOpen [.ref c0, V a1] (WX X S) 0 0 (KB X q S) := by
  refine Ev.of pn_Plan rfl (leK rfl) ?_
  show Go E M_Plan_storyIsOpen 0 0 0 [(0, .ref c0), (1, V a1)] [] (WX X S) 0 0 (KB X q S)
  unfold fn_Plan_storyIsOpen at h
  refine g_aloadn (pc := 0) (i0 := 0) (j := 0) (dK D_Plan_storyIsOpen 0 rfl) rfl rfl ?_
  refine g_iloadn (pc := 1) (i0 := 1) (j := 1) (dK D_Plan_storyIsOpen 1 rfl) rfl rfl ?_
  refine vg_iconst (pc := 2) (dK D_Plan_storyIsOpen 2 rfl) ?_
  refine bnE h (fun p1 e_p1 h => ?_)
  refine vg_cV (pc := 3) (As := [V a1, V 0]) (rest := []) (mc' := 0) (ms' := 0) (dK D_Plan_storyIsOpen 3 rfl) K_Plan_177 (fitK rfl) (ltK rfl) hc0 rfl (leK rfl) (leK rfl) (leK rfl) (tf_Plan_storyIsOnFormThat hc0 ha1 (inRk rfl) e_p1) (kcB ?_)
  exact vg_iretB (pc := 6) (b := p1) (dK D_Plan_storyIsOpen 4 rfl) rfl (leK rfl) (leK rfl) (fun _ => rfl) (by obtain rfl := Option.some.inj h; exact ⟨rfl, rfl⟩)
def lb_Searches_nextLateRank_4 (c0 : Nat) (a1 : Int) (S : St) (go : Int × Int → Option (Int)) (a2 : Int) (a3 : Int) : Option (Int) := if (g S (tgt (tgt c0 1) 0) 7) ≤ a3 then (some a2) else (bnO (fn_Searches_adIsOpen c0 a3 S) fun p1 => if p1 = true then (if 0 ≤ a3 ∧ a3 < 40 then (bnO (fn_Plan_isLate (tgt c0 0) (g S (tgt (tgt (tgt c0 1) 0) 5) a3.toNat) S) fun p5 => if p5 = true then (bnO (fn_Searches_rankOf (g S (tgt (tgt (tgt c0 1) 0) 5) a3.toNat) a3 S) fun p8 => bnO (fn_Searches_nearerRank a1 a2 p8 S) fun p9 => nm (wr (a3 + 1)) fun v10 => go (p9, v10)) else (nm (wr (a3 + 1)) fun v7 => go (a2, v7))) else none) else (nm (wr (a3 + 1)) fun v3 => go (a2, v3)))
def lo_Searches_nextLateRank_4 (c0 : Nat) (a1 : Int) (S : St) : Nat → Int × Int → Option (Int) := lp fun go p => lb_Searches_nextLateRank_4 c0 a1 S go p.1 p.2
theorem tl_Searches_nextLateRank_4 {E : EV} {X : XT} {c0 : Nat} (hc0 : HC X 6 c0) {a1 : Int} (ha1 : inR a1) {S : St} {K : RK → PS → Prop} {q : Int} (hx : inR q → Go E M_Searches_nextLateRank 0 0 76 [(0, .ref c0), (1, V a1), (2, V q)] [] (WX X S) 0 0 K) : ∀ n a, lo_Searches_nextLateRank_4 c0 a1 S n a = some q → inR a.1 → inR a.2 → Go E M_Searches_nextLateRank 0 0 4 [(0, .ref c0), (1, V a1), (2, V a.1), (3, V a.2)] [] (WX X S) 0 0 K := by
  refine lp_ind (P := fun a : Int × Int => inR a.1 → inR a.2 → Go E M_Searches_nextLateRank 0 0 4 [(0, .ref c0), (1, V a1), (2, V a.1), (3, V a.2)] [] (WX X S) 0 0 K) (fun go ih a h => ?_)
  obtain ⟨a2, a3⟩ := a
  intro ha2 ha3
  show Go E M_Searches_nextLateRank 0 0 4 [(0, .ref c0), (1, V a1), (2, V a2), (3, V a3)] [] (WX X S) 0 0 K
  replace h : lb_Searches_nextLateRank_4 c0 a1 S go a2 a3 = some q := h
  unfold lb_Searches_nextLateRank_4 at h
  refine g_iloadn (pc := 4) (i0 := 3) (j := 3) (dK D_Searches_nextLateRank_0 4 rfl) rfl rfl ?_
  refine g_aloadn (pc := 5) (i0 := 0) (j := 0) (dK D_Searches_nextLateRank_0 5 rfl) rfl rfl ?_
  refine vg_getO (pc := 6) (ci := 6) (f := 1) (dK D_Searches_nextLateRank_0 6 rfl) q_370 hc0 (ltK rfl) (ltK rfl) rfl ?_
  refine vg_getO (pc := 9) (ci := 8) (f := 0) (dK D_Searches_nextLateRank_0 7 rfl) q_221 (hw_6_1 hc0) (ltK rfl) (ltK rfl) rfl ?_
  refine vg_getI (pc := 12) (ci := 0) (f := 7) (dK D_Searches_nextLateRank_0 8 rfl) q_106 (hw_8_0 (hw_6_1 hc0)) (ltK rfl) (ltK rfl) rfl ?_
  refine vg_icmp_ge (pc := 15) (t := 76) (dK D_Searches_nextLateRank_0 9 rfl) rfl ha3 (g_in _ _ _) (fun hc11 => ?_) (fun hc11 => ?_)
  · replace h := ifP h hc11
    obtain rfl := Option.some.inj h
    refine gL_weak (ls' := [(0, .ref c0), (1, V a1), (2, V a2)]) (sbc 0 rfl (sbc 1 rfl (sbc 2 rfl sbn))) ?_
    exact hx ha2
  · replace h := ifN h hc11
    refine g_aloadn (pc := 18) (i0 := 0) (j := 0) (dK D_Searches_nextLateRank_0 10 rfl) rfl rfl ?_
    refine g_iloadn (pc := 19) (i0 := 3) (j := 3) (dK D_Searches_nextLateRank_0 11 rfl) rfl rfl ?_
    refine bnE h (fun p1 e_p1 h => ?_)
    refine vg_cV (pc := 20) (As := [V a3]) (rest := []) (mc' := 0) (ms' := 0) (dK D_Searches_nextLateRank_0 12 rfl) K_Searches_204 (fitK rfl) (ltK rfl) hc0 rfl (leK rfl) (leK rfl) (leK rfl) (tf_Searches_adIsOpen hc0 ha3 e_p1) (kcB ?_)
    refine vg_ifB_eq (pc := 23) (b := p1) (t := 70) (dK D_Searches_nextLateRank_0 13 rfl) rfl (fun hc2 => ?_) (fun hc2 => ?_)
    · replace h := ifP h hc2
      refine g_aloadn (pc := 26) (i0 := 0) (j := 0) (dK D_Searches_nextLateRank_0 14 rfl) rfl rfl ?_
      refine vg_getO (pc := 27) (ci := 6) (f := 0) (dK D_Searches_nextLateRank_0 15 rfl) q_368 hc0 (ltK rfl) (ltK rfl) rfl ?_
      refine g_aloadn (pc := 30) (i0 := 0) (j := 0) (dK D_Searches_nextLateRank_0 16 rfl) rfl rfl ?_
      refine vg_getO (pc := 31) (ci := 6) (f := 1) (dK D_Searches_nextLateRank_0 17 rfl) q_370 hc0 (ltK rfl) (ltK rfl) rfl ?_
      refine vg_getO (pc := 34) (ci := 8) (f := 0) (dK D_Searches_nextLateRank_0 18 rfl) q_221 (hw_6_1 hc0) (ltK rfl) (ltK rfl) rfl ?_
      refine vg_getA (pc := 37) (ci := 0) (f := 5) (dK D_Searches_nextLateRank_0 19 rfl) q_98 (hw_8_0 (hw_6_1 hc0)) (ltK rfl) (ltK rfl) rfl ?_
      refine g_iloadn (pc := 40) (i0 := 3) (j := 3) (dK D_Searches_nextLateRank_0 20 rfl) rfl rfl ?_
      refine gdE h (fun hi4 h => ?_)
      refine vg_iaload (pc := 41) (j := a3.toNat) (dK D_Searches_nextLateRank_0 21 rfl) (hw_0_5 (hw_8_0 (hw_6_1 hc0))) rfl hi4 rfl ?_
      refine bnE h (fun p5 e_p5 h => ?_)
      refine vg_cV (pc := 42) (As := [V (g S (tgt (tgt (tgt c0 1) 0) 5) a3.toNat)]) (rest := []) (mc' := 0) (ms' := 0) (dK D_Searches_nextLateRank_0 22 rfl) K_Searches_210 (fitK rfl) (ltK rfl) (hw_6_0 hc0) rfl (leK rfl) (leK rfl) (leK rfl) (tf_Plan_isLate (hw_6_0 hc0) (g_in _ _ _) e_p5) (kcB ?_)
      refine vg_ifB_eq (pc := 45) (b := p5) (t := 70) (dK D_Searches_nextLateRank_0 23 rfl) rfl (fun hc6 => ?_) (fun hc6 => ?_)
      · replace h := ifP h hc6
        refine g_iloadn (pc := 48) (i0 := 1) (j := 1) (dK D_Searches_nextLateRank_0 24 rfl) rfl rfl ?_
        refine g_iloadn (pc := 49) (i0 := 2) (j := 2) (dK D_Searches_nextLateRank_0 25 rfl) rfl rfl ?_
        refine g_aloadn (pc := 50) (i0 := 0) (j := 0) (dK D_Searches_nextLateRank_0 26 rfl) rfl rfl ?_
        refine vg_getO (pc := 51) (ci := 6) (f := 1) (dK D_Searches_nextLateRank_0 27 rfl) q_370 hc0 (ltK rfl) (ltK rfl) rfl ?_
        refine vg_getO (pc := 54) (ci := 8) (f := 0) (dK D_Searches_nextLateRank_0 28 rfl) q_221 (hw_6_1 hc0) (ltK rfl) (ltK rfl) rfl ?_
        refine vg_getA (pc := 57) (ci := 0) (f := 5) (dK D_Searches_nextLateRank_0 29 rfl) q_98 (hw_8_0 (hw_6_1 hc0)) (ltK rfl) (ltK rfl) rfl ?_
        refine g_iloadn (pc := 60) (i0 := 3) (j := 3) (dK D_Searches_nextLateRank_0 30 rfl) rfl rfl ?_
        refine vg_iaload (pc := 61) (j := a3.toNat) (dK D_Searches_nextLateRank_0 31 rfl) (hw_0_5 (hw_8_0 (hw_6_1 hc0))) rfl hi4 rfl ?_
        refine g_iloadn (pc := 62) (i0 := 3) (j := 3) (dK D_Searches_nextLateRank_0 32 rfl) rfl rfl ?_
        refine bnE h (fun p8 e_p8 h => ?_)
        refine vg_cS (pc := 63) (As := [V (g S (tgt (tgt (tgt c0 1) 0) 5) a3.toNat), V a3]) (rest := [V a2, V a1]) (mc' := 0) (ms' := 0) (dK D_Searches_nextLateRank_0 33 rfl) K_Searches_213 (fitK rfl) rfl (leK rfl) (leK rfl) (leK rfl) (tf_Searches_rankOf (g_in _ _ _) ha3 e_p8) (kcI (fun h_p8 => ?_))
        refine bnE h (fun p9 e_p9 h => ?_)
        refine vg_cS (pc := 66) (As := [V a1, V a2, V p8]) (rest := []) (mc' := 0) (ms' := 0) (dK D_Searches_nextLateRank_0 34 rfl) K_Searches_216 (fitK rfl) rfl (leK rfl) (leK rfl) (leK rfl) (tf_Searches_nearerRank ha1 ha2 h_p8 e_p9) (kcI (fun h_p9 => ?_))
        refine g_istoren (pc := 69) (i0 := 2) (ls2 := [(2, V p9), (0, .ref c0), (1, V a1), (3, V a3)]) (dK D_Searches_nextLateRank_0 35 rfl) rfl (ltK rfl) rfl ?_
        refine nmE h (fun v10 e_v10 h => ?_)
        refine vg_iinc (pc := 70) (j := 3) (a := a3) (z := 1) (ls2 := [(3, V v10), (2, V p9), (0, .ref c0), (1, V a1)]) (dK D_Searches_nextLateRank_0 36 rfl) rfl e_v10 (ltK rfl) rfl ?_
        refine g_goto (pc := 73) (tgt := 4) (dK D_Searches_nextLateRank_0 37 rfl) rfl ?_
        refine gL_weak (ls' := [(0, .ref c0), (1, V a1), (2, V p9), (3, V v10)]) (sbc 2 rfl (sbc 3 rfl (sbc 1 rfl (sbc 0 rfl sbn)))) ?_
        replace h := ih _ h
        exact h h_p9 (Vn_in e_v10)
      · replace h := ifN h hc6
        refine nmE h (fun v7 e_v7 h => ?_)
        refine vg_iinc (pc := 70) (j := 3) (a := a3) (z := 1) (ls2 := [(3, V v7), (0, .ref c0), (1, V a1), (2, V a2)]) (dK D_Searches_nextLateRank_0 36 rfl) rfl e_v7 (ltK rfl) rfl ?_
        refine g_goto (pc := 73) (tgt := 4) (dK D_Searches_nextLateRank_0 37 rfl) rfl ?_
        refine gL_weak (ls' := [(0, .ref c0), (1, V a1), (2, V a2), (3, V v7)]) (sbc 1 rfl (sbc 2 rfl (sbc 3 rfl (sbc 0 rfl sbn)))) ?_
        replace h := ih _ h
        exact h ha2 (Vn_in e_v7)
    · replace h := ifN h hc2
      refine nmE h (fun v3 e_v3 h => ?_)
      refine vg_iinc (pc := 70) (j := 3) (a := a3) (z := 1) (ls2 := [(3, V v3), (0, .ref c0), (1, V a1), (2, V a2)]) (dK D_Searches_nextLateRank_0 36 rfl) rfl e_v3 (ltK rfl) rfl ?_
      refine g_goto (pc := 73) (tgt := 4) (dK D_Searches_nextLateRank_0 37 rfl) rfl ?_
      refine gL_weak (ls' := [(0, .ref c0), (1, V a1), (2, V a2), (3, V v3)]) (sbc 1 rfl (sbc 2 rfl (sbc 3 rfl (sbc 0 rfl sbn)))) ?_
      replace h := ih _ h
      exact h ha2 (Vn_in e_v3)
def lb_Searches_nextLateRank_78 (c0 : Nat) (a1 : Int) (S : St) (go : Int × Int → Option (Int)) (a2 : Int) (a3 : Int) : Option (Int) := if (g S (tgt (tgt c0 1) 1) 5) ≤ a3 then (some a2) else (bnO (fn_Plan_storyIsOpen (tgt c0 0) a3 S) fun p13 => if p13 = true then (if 0 ≤ a3 ∧ a3 < 10 then (bnO (fn_Plan_isLate (tgt c0 0) (g S (tgt (tgt (tgt c0 1) 1) 3) a3.toNat) S) fun p17 => if p17 = true then (nm (wr (100 + a3)) fun v20 => bnO (fn_Searches_rankOf (g S (tgt (tgt (tgt c0 1) 1) 3) a3.toNat) v20 S) fun p21 => bnO (fn_Searches_nearerRank a1 a2 p21 S) fun p22 => nm (wr (a3 + 1)) fun v23 => go (p22, v23)) else (nm (wr (a3 + 1)) fun v19 => go (a2, v19))) else none) else (nm (wr (a3 + 1)) fun v15 => go (a2, v15)))
def lo_Searches_nextLateRank_78 (c0 : Nat) (a1 : Int) (S : St) : Nat → Int × Int → Option (Int) := lp fun go p => lb_Searches_nextLateRank_78 c0 a1 S go p.1 p.2
theorem tl_Searches_nextLateRank_78 {E : EV} {X : XT} {c0 : Nat} (hc0 : HC X 6 c0) {a1 : Int} (ha1 : inR a1) {S : St} {K : RK → PS → Prop} {q : Int} (hx : inR q → Go E M_Searches_nextLateRank 0 0 160 [(2, V q)] [] (WX X S) 0 0 K) : ∀ n a, lo_Searches_nextLateRank_78 c0 a1 S n a = some q → inR a.1 → inR a.2 → Go E M_Searches_nextLateRank 0 0 78 [(0, .ref c0), (1, V a1), (2, V a.1), (3, V a.2)] [] (WX X S) 0 0 K := by
  refine lp_ind (P := fun a : Int × Int => inR a.1 → inR a.2 → Go E M_Searches_nextLateRank 0 0 78 [(0, .ref c0), (1, V a1), (2, V a.1), (3, V a.2)] [] (WX X S) 0 0 K) (fun go ih a h => ?_)
  obtain ⟨a2, a3⟩ := a
  intro ha2 ha3
  show Go E M_Searches_nextLateRank 0 0 78 [(0, .ref c0), (1, V a1), (2, V a2), (3, V a3)] [] (WX X S) 0 0 K
  replace h : lb_Searches_nextLateRank_78 c0 a1 S go a2 a3 = some q := h
  unfold lb_Searches_nextLateRank_78 at h
  refine g_iloadn (pc := 78) (i0 := 3) (j := 3) (dK D_Searches_nextLateRank_0 40 rfl) rfl rfl ?_
  refine g_aloadn (pc := 79) (i0 := 0) (j := 0) (dK D_Searches_nextLateRank_0 41 rfl) rfl rfl ?_
  refine vg_getO (pc := 80) (ci := 6) (f := 1) (dK D_Searches_nextLateRank_0 42 rfl) q_370 hc0 (ltK rfl) (ltK rfl) rfl ?_
  refine vg_getO (pc := 83) (ci := 8) (f := 1) (dK D_Searches_nextLateRank_0 43 rfl) q_227 (hw_6_1 hc0) (ltK rfl) (ltK rfl) rfl ?_
  refine vg_getI (pc := 86) (ci := 9) (f := 5) (dK D_Searches_nextLateRank_0 44 rfl) q_155 (hw_8_1 (hw_6_1 hc0)) (ltK rfl) (ltK rfl) rfl ?_
  refine vg_icmp_ge (pc := 89) (t := 160) (dK D_Searches_nextLateRank_0 45 rfl) rfl ha3 (g_in _ _ _) (fun hc24 => ?_) (fun hc24 => ?_)
  · replace h := ifP h hc24
    obtain rfl := Option.some.inj h
    refine gL_weak (ls' := [(2, V a2)]) (sbc 2 rfl sbn) ?_
    exact hx ha2
  · replace h := ifN h hc24
    refine g_aloadn (pc := 92) (i0 := 0) (j := 0) (dK D_Searches_nextLateRank_0 46 rfl) rfl rfl ?_
    refine vg_getO (pc := 93) (ci := 6) (f := 0) (dK D_Searches_nextLateRank_0 47 rfl) q_368 hc0 (ltK rfl) (ltK rfl) rfl ?_
    refine g_iloadn (pc := 96) (i0 := 3) (j := 3) (dK D_Searches_nextLateRank_0 48 rfl) rfl rfl ?_
    refine bnE h (fun p13 e_p13 h => ?_)
    refine vg_cV (pc := 97) (As := [V a3]) (rest := []) (mc' := 0) (ms' := 0) (dK D_Searches_nextLateRank_0 49 rfl) K_Searches_220 (fitK rfl) (ltK rfl) (hw_6_0 hc0) rfl (leK rfl) (leK rfl) (leK rfl) (tf_Plan_storyIsOpen (hw_6_0 hc0) ha3 e_p13) (kcB ?_)
    refine vg_ifB_eq (pc := 100) (b := p13) (t := 154) (dK D_Searches_nextLateRank_1 0 rfl) rfl (fun hc14 => ?_) (fun hc14 => ?_)
    · replace h := ifP h hc14
      refine g_aloadn (pc := 103) (i0 := 0) (j := 0) (dK D_Searches_nextLateRank_1 1 rfl) rfl rfl ?_
      refine vg_getO (pc := 104) (ci := 6) (f := 0) (dK D_Searches_nextLateRank_1 2 rfl) q_368 hc0 (ltK rfl) (ltK rfl) rfl ?_
      refine g_aloadn (pc := 107) (i0 := 0) (j := 0) (dK D_Searches_nextLateRank_1 3 rfl) rfl rfl ?_
      refine vg_getO (pc := 108) (ci := 6) (f := 1) (dK D_Searches_nextLateRank_1 4 rfl) q_370 hc0 (ltK rfl) (ltK rfl) rfl ?_
      refine vg_getO (pc := 111) (ci := 8) (f := 1) (dK D_Searches_nextLateRank_1 5 rfl) q_227 (hw_6_1 hc0) (ltK rfl) (ltK rfl) rfl ?_
      refine vg_getA (pc := 114) (ci := 9) (f := 3) (dK D_Searches_nextLateRank_1 6 rfl) q_146 (hw_8_1 (hw_6_1 hc0)) (ltK rfl) (ltK rfl) rfl ?_
      refine g_iloadn (pc := 117) (i0 := 3) (j := 3) (dK D_Searches_nextLateRank_1 7 rfl) rfl rfl ?_
      refine gdE h (fun hi16 h => ?_)
      refine vg_iaload (pc := 118) (j := a3.toNat) (dK D_Searches_nextLateRank_1 8 rfl) (hw_9_3 (hw_8_1 (hw_6_1 hc0))) rfl hi16 rfl ?_
      refine bnE h (fun p17 e_p17 h => ?_)
      refine vg_cV (pc := 119) (As := [V (g S (tgt (tgt (tgt c0 1) 1) 3) a3.toNat)]) (rest := []) (mc' := 0) (ms' := 0) (dK D_Searches_nextLateRank_1 9 rfl) K_Searches_210 (fitK rfl) (ltK rfl) (hw_6_0 hc0) rfl (leK rfl) (leK rfl) (leK rfl) (tf_Plan_isLate (hw_6_0 hc0) (g_in _ _ _) e_p17) (kcB ?_)
      refine vg_ifB_eq (pc := 122) (b := p17) (t := 154) (dK D_Searches_nextLateRank_1 10 rfl) rfl (fun hc18 => ?_) (fun hc18 => ?_)
      · replace h := ifP h hc18
        refine g_aloadn (pc := 125) (i0 := 0) (j := 0) (dK D_Searches_nextLateRank_1 11 rfl) rfl rfl ?_
        refine vg_getO (pc := 126) (ci := 6) (f := 1) (dK D_Searches_nextLateRank_1 12 rfl) q_370 hc0 (ltK rfl) (ltK rfl) rfl ?_
        refine vg_getO (pc := 129) (ci := 8) (f := 1) (dK D_Searches_nextLateRank_1 13 rfl) q_227 (hw_6_1 hc0) (ltK rfl) (ltK rfl) rfl ?_
        refine vg_getA (pc := 132) (ci := 9) (f := 3) (dK D_Searches_nextLateRank_1 14 rfl) q_146 (hw_8_1 (hw_6_1 hc0)) (ltK rfl) (ltK rfl) rfl ?_
        refine g_iloadn (pc := 135) (i0 := 3) (j := 3) (dK D_Searches_nextLateRank_1 15 rfl) rfl rfl ?_
        refine vg_iaload (pc := 136) (j := a3.toNat) (dK D_Searches_nextLateRank_1 16 rfl) (hw_9_3 (hw_8_1 (hw_6_1 hc0))) rfl hi16 rfl ?_
        refine vg_bipush (pc := 137) (dK D_Searches_nextLateRank_1 17 rfl) rfl ?_
        refine g_iloadn (pc := 139) (i0 := 3) (j := 3) (dK D_Searches_nextLateRank_1 18 rfl) rfl rfl ?_
        refine vg_iadd (pc := 140) (dK D_Searches_nextLateRank_1 19 rfl) ?_
        refine nmE h (fun v20 e_v20 h => ?_)
        refine gtop e_v20 ?_
        refine bnE h (fun p21 e_p21 h => ?_)
        refine vg_cS (pc := 141) (As := [V (g S (tgt (tgt (tgt c0 1) 1) 3) a3.toNat), V v20]) (rest := []) (mc' := 0) (ms' := 0) (dK D_Searches_nextLateRank_1 20 rfl) K_Searches_213 (fitK rfl) rfl (leK rfl) (leK rfl) (leK rfl) (tf_Searches_rankOf (g_in _ _ _) (Vn_in e_v20) e_p21) (kcI (fun h_p21 => ?_))
        refine g_istore (pc := 144) (ls2 := [(4, V p21), (0, .ref c0), (1, V a1), (2, V a2), (3, V a3)]) (dK D_Searches_nextLateRank_1 21 rfl) (ltK rfl) rfl ?_
        refine g_iloadn (pc := 146) (i0 := 1) (j := 2) (dK D_Searches_nextLateRank_1 22 rfl) rfl rfl ?_
        refine g_iloadn (pc := 147) (i0 := 2) (j := 3) (dK D_Searches_nextLateRank_1 23 rfl) rfl rfl ?_
        refine g_iload (pc := 148) (j := 0) (dK D_Searches_nextLateRank_1 24 rfl) rfl ?_
        refine bnE h (fun p22 e_p22 h => ?_)
        refine vg_cS (pc := 150) (As := [V a1, V a2, V p21]) (rest := []) (mc' := 0) (ms' := 0) (dK D_Searches_nextLateRank_1 25 rfl) K_Searches_216 (fitK rfl) rfl (leK rfl) (leK rfl) (leK rfl) (tf_Searches_nearerRank ha1 ha2 h_p21 e_p22) (kcI (fun h_p22 => ?_))
        refine g_istoren (pc := 153) (i0 := 2) (ls2 := [(2, V p22), (4, V p21), (0, .ref c0), (1, V a1), (3, V a3)]) (dK D_Searches_nextLateRank_1 26 rfl) rfl (ltK rfl) rfl ?_
        refine nmE h (fun v23 e_v23 h => ?_)
        refine vg_iinc (pc := 154) (j := 4) (a := a3) (z := 1) (ls2 := [(3, V v23), (2, V p22), (4, V p21), (0, .ref c0), (1, V a1)]) (dK D_Searches_nextLateRank_1 27 rfl) rfl e_v23 (ltK rfl) rfl ?_
        refine g_goto (pc := 157) (tgt := 78) (dK D_Searches_nextLateRank_1 28 rfl) rfl ?_
        refine gL_weak (ls' := [(0, .ref c0), (1, V a1), (2, V p22), (3, V v23)]) (sbc 3 rfl (sbc 4 rfl (sbc 1 rfl (sbc 0 rfl sbn)))) ?_
        replace h := ih _ h
        exact h h_p22 (Vn_in e_v23)
      · replace h := ifN h hc18
        refine nmE h (fun v19 e_v19 h => ?_)
        refine vg_iinc (pc := 154) (j := 3) (a := a3) (z := 1) (ls2 := [(3, V v19), (0, .ref c0), (1, V a1), (2, V a2)]) (dK D_Searches_nextLateRank_1 27 rfl) rfl e_v19 (ltK rfl) rfl ?_
        refine g_goto (pc := 157) (tgt := 78) (dK D_Searches_nextLateRank_1 28 rfl) rfl ?_
        refine gL_weak (ls' := [(0, .ref c0), (1, V a1), (2, V a2), (3, V v19)]) (sbc 1 rfl (sbc 2 rfl (sbc 3 rfl (sbc 0 rfl sbn)))) ?_
        replace h := ih _ h
        exact h ha2 (Vn_in e_v19)
    · replace h := ifN h hc14
      refine nmE h (fun v15 e_v15 h => ?_)
      refine vg_iinc (pc := 154) (j := 3) (a := a3) (z := 1) (ls2 := [(3, V v15), (0, .ref c0), (1, V a1), (2, V a2)]) (dK D_Searches_nextLateRank_1 27 rfl) rfl e_v15 (ltK rfl) rfl ?_
      refine g_goto (pc := 157) (tgt := 78) (dK D_Searches_nextLateRank_1 28 rfl) rfl ?_
      refine gL_weak (ls' := [(0, .ref c0), (1, V a1), (2, V a2), (3, V v15)]) (sbc 1 rfl (sbc 2 rfl (sbc 3 rfl (sbc 0 rfl sbn)))) ?_
      replace h := ih _ h
      exact h ha2 (Vn_in e_v15)
def fn_Searches_nextLateRank (c0 : Nat) (a1 : Int) (S : St) : Option (Int) := bnO (lo_Searches_nextLateRank_4 c0 a1 S FU ((-1), 0)) fun p12 => bnO (lo_Searches_nextLateRank_78 c0 a1 S FU (p12, 0)) fun p25 => some p25
theorem tf_Searches_nextLateRank {E : EV} {X : XT} {c0 : Nat} (hc0 : HC X 6 c0) {a1 : Int} (ha1 : inR a1) {S : St} {q : Int} (h : fn_Searches_nextLateRank c0 a1 S = some q) : Ev E M_Searches_nextLateRank [.ref c0, V a1] (WX X S) 0 0 (KI X q S) := by
  refine Ev.of pn_Searches rfl (leK rfl) ?_
  show Go E M_Searches_nextLateRank 0 0 0 [(0, .ref c0), (1, V a1)] [] (WX X S) 0 0 (KI X q S)
  unfold fn_Searches_nextLateRank at h
  refine vg_iconst (pc := 0) (dK D_Searches_nextLateRank_0 0 rfl) ?_
  refine g_istoren (pc := 1) (i0 := 2) (ls2 := [(2, V (-1)), (0, .ref c0), (1, V a1)]) (dK D_Searches_nextLateRank_0 1 rfl) rfl (ltK rfl) rfl ?_
  refine vg_iconst (pc := 2) (dK D_Searches_nextLateRank_0 2 rfl) ?_
  refine g_istoren (pc := 3) (i0 := 3) (ls2 := [(3, V 0), (2, V (-1)), (0, .ref c0), (1, V a1)]) (dK D_Searches_nextLateRank_0 3 rfl) rfl (ltK rfl) rfl ?_
  refine bnE h (fun p12 e_p12 h => ?_)
  refine gL_weak (ls' := [(0, .ref c0), (1, V a1), (2, V (-1)), (3, V 0)]) (sbc 2 rfl (sbc 3 rfl (sbc 1 rfl (sbc 0 rfl sbn)))) ?_
  refine tl_Searches_nextLateRank_4 hc0 ha1 (fun hx2_p12 => ?_) FU ((-1), 0) e_p12 (inRk rfl) (inRk rfl)
  refine vg_iconst (pc := 76) (dK D_Searches_nextLateRank_0 38 rfl) ?_
  refine g_istoren (pc := 77) (i0 := 3) (ls2 := [(3, V 0), (0, .ref c0), (1, V a1), (2, V p12)]) (dK D_Searches_nextLateRank_0 39 rfl) rfl (ltK rfl) rfl ?_
  refine bnE h (fun p25 e_p25 h => ?_)
  refine gL_weak (ls' := [(0, .ref c0), (1, V a1), (2, V p12), (3, V 0)]) (sbc 1 rfl (sbc 2 rfl (sbc 3 rfl (sbc 0 rfl sbn)))) ?_
  refine tl_Searches_nextLateRank_78 hc0 ha1 (fun hx2_p25 => ?_) FU (p12, 0) e_p25 hx2_p12 (inRk rfl)
  refine g_iloadn (pc := 160) (i0 := 2) (j := 0) (dK D_Searches_nextLateRank_1 29 rfl) rfl rfl ?_
  exact vg_iretI (pc := 161) (r := p25) (dK D_Searches_nextLateRank_1 30 rfl) rfl (leK rfl) (leK rfl) (fun _ => rfl) (by obtain rfl := Option.some.inj h; exact ⟨rfl, hx2_p25, rfl⟩)
def lb_Searches_lateItemAt_16 (c0 : Nat) (a1 : Int) (S : St) (go : Int × Int → Option ((Int) ⊕ (Int))) (a2 : Int) (a3 : Int) : Option ((Int) ⊕ (Int)) := if a1 < a3 then (some (.inr a2)) else (bnO (fn_Searches_nextLateRank c0 a2 S) fun p1 => if p1 = (-1) then (some (.inl (-1))) else (nm (wr (a3 + 1)) fun v2 => go (p1, v2)))
def lo_Searches_lateItemAt_16 (c0 : Nat) (a1 : Int) (S : St) : Nat → Int × Int → Option ((Int) ⊕ (Int)) := lp fun go p => lb_Searches_lateItemAt_16 c0 a1 S go p.1 p.2
theorem tl_Searches_lateItemAt_16 {E : EV} {X : XT} {c0 : Nat} (hc0 : HC X 6 c0) {a1 : Int} (ha1 : inR a1) {S : St} {K : RK → PS → Prop} {q : (Int) ⊕ (Int)} (hx : ∀ p, q = .inr p → inR p → Go E M_Searches_lateItemAt 0 0 40 [(2, V p)] [] (WX X S) 0 0 K) (hr : ∀ p, q = .inl p → inR p → K (.inl (some (V p))) (WX X S)) : ∀ n a, lo_Searches_lateItemAt_16 c0 a1 S n a = some q → inR a.1 → inR a.2 → Go E M_Searches_lateItemAt 0 0 16 [(0, .ref c0), (1, V a1), (2, V a.1), (3, V a.2)] [] (WX X S) 0 0 K := by
  refine lp_ind (P := fun a : Int × Int => inR a.1 → inR a.2 → Go E M_Searches_lateItemAt 0 0 16 [(0, .ref c0), (1, V a1), (2, V a.1), (3, V a.2)] [] (WX X S) 0 0 K) (fun go ih a h => ?_)
  obtain ⟨a2, a3⟩ := a
  intro ha2 ha3
  show Go E M_Searches_lateItemAt 0 0 16 [(0, .ref c0), (1, V a1), (2, V a2), (3, V a3)] [] (WX X S) 0 0 K
  replace h : lb_Searches_lateItemAt_16 c0 a1 S go a2 a3 = some q := h
  unfold lb_Searches_lateItemAt_16 at h
  refine g_iloadn (pc := 16) (i0 := 3) (j := 3) (dK D_Searches_lateItemAt 11 rfl) rfl rfl ?_
  refine g_iloadn (pc := 17) (i0 := 1) (j := 1) (dK D_Searches_lateItemAt 12 rfl) rfl rfl ?_
  refine vg_icmp_gt (pc := 18) (t := 40) (dK D_Searches_lateItemAt 13 rfl) rfl ha3 ha1 (fun hc4 => ?_) (fun hc4 => ?_)
  · replace h := ifP h hc4
    refine gL_weak (ls' := [(2, V a2)]) (sbc 2 rfl sbn) ?_
    exact hx _ (Option.some.inj h).symm ha2
  · replace h := ifN h hc4
    refine g_aloadn (pc := 21) (i0 := 0) (j := 0) (dK D_Searches_lateItemAt 14 rfl) rfl rfl ?_
    refine g_iloadn (pc := 22) (i0 := 2) (j := 2) (dK D_Searches_lateItemAt 15 rfl) rfl rfl ?_
    refine bnE h (fun p1 e_p1 h => ?_)
    refine vg_cV (pc := 23) (As := [V a2]) (rest := []) (mc' := 0) (ms' := 0) (dK D_Searches_lateItemAt 16 rfl) K_Searches_201 (fitK rfl) (ltK rfl) hc0 rfl (leK rfl) (leK rfl) (leK rfl) (tf_Searches_nextLateRank hc0 ha2 e_p1) (kcI (fun h_p1 => ?_))
    refine g_istoren (pc := 26) (i0 := 2) (ls2 := [(2, V p1), (0, .ref c0), (1, V a1), (3, V a3)]) (dK D_Searches_lateItemAt 17 rfl) rfl (ltK rfl) rfl ?_
    refine g_iloadn (pc := 27) (i0 := 2) (j := 0) (dK D_Searches_lateItemAt 18 rfl) rfl rfl ?_
    refine vg_iconst (pc := 28) (dK D_Searches_lateItemAt 19 rfl) ?_
    refine vg_icmp_ne (pc := 29) (t := 34) (dK D_Searches_lateItemAt 20 rfl) rfl h_p1 (inRk rfl) (fun hc3 => ?_) (fun hc3 => ?_)
    · replace h := ifN h hc3
      refine nmE h (fun v2 e_v2 h => ?_)
      refine vg_iinc (pc := 34) (j := 3) (a := a3) (z := 1) (ls2 := [(3, V v2), (2, V p1), (0, .ref c0), (1, V a1)]) (dK D_Searches_lateItemAt 23 rfl) rfl e_v2 (ltK rfl) rfl ?_
      refine g_goto (pc := 37) (tgt := 16) (dK D_Searches_lateItemAt 24 rfl) rfl ?_
      refine gL_weak (ls' := [(0, .ref c0), (1, V a1), (2, V p1), (3, V v2)]) (sbc 2 rfl (sbc 3 rfl (sbc 1 rfl (sbc 0 rfl sbn)))) ?_
      replace h := ih _ h
      exact h h_p1 (Vn_in e_v2)
    · replace h := ifP h hc3
      refine vg_iconst (pc := 32) (dK D_Searches_lateItemAt 21 rfl) ?_
      exact vg_iretI (pc := 33) (r := (-1)) (dK D_Searches_lateItemAt 22 rfl) rfl (leK rfl) (leK rfl) (fun _ => rfl) (hr _ (Option.some.inj h).symm (inRk rfl))
def fn_Searches_lateItemAt (c0 : Nat) (a1 : Int) (S : St) : Option (Int) := if a1 < 0 then (some (-1)) else (if a1 < 50 then (bnS (lo_Searches_lateItemAt_16 c0 a1 S FU ((-1), 0)) (fun p6 => some p6) fun p5 => some (wr (p5.tmod 200))) else (some (-1)))
theorem tf_Searches_lateItemAt {E : EV} {X : XT} {c0 : Nat} (hc0 : HC X 6 c0) {a1 : Int} (ha1 : inR a1) {S : St} {q : Int} (h : fn_Searches_lateItemAt c0 a1 S = some q) : Ev E M_Searches_lateItemAt [.ref c0, V a1] (WX X S) 0 0 (KI X q S) := by
  refine Ev.of pn_Searches rfl (leK rfl) ?_
  show Go E M_Searches_lateItemAt 0 0 0 [(0, .ref c0), (1, V a1)] [] (WX X S) 0 0 (KI X q S)
  unfold fn_Searches_lateItemAt at h
  refine g_iloadn (pc := 0) (i0 := 1) (j := 1) (dK D_Searches_lateItemAt 0 rfl) rfl rfl ?_
  refine vg_if_lt (pc := 1) (t := 10) (dK D_Searches_lateItemAt 1 rfl) rfl ha1 (fun hc8 => ?_) (fun hc8 => ?_)
  · replace h := ifP h hc8
    refine vg_iconst (pc := 10) (dK D_Searches_lateItemAt 5 rfl) ?_
    exact vg_iretI (pc := 11) (r := (-1)) (dK D_Searches_lateItemAt 6 rfl) rfl (leK rfl) (leK rfl) (fun _ => rfl) (by obtain rfl := Option.some.inj h; exact ⟨rfl, (inRk rfl), rfl⟩)
  · replace h := ifN h hc8
    refine g_iloadn (pc := 4) (i0 := 1) (j := 1) (dK D_Searches_lateItemAt 2 rfl) rfl rfl ?_
    refine vg_bipush (pc := 5) (dK D_Searches_lateItemAt 3 rfl) rfl ?_
    refine vg_icmp_lt (pc := 7) (t := 12) (dK D_Searches_lateItemAt 4 rfl) rfl ha1 (inRk rfl) (fun hc7 => ?_) (fun hc7 => ?_)
    · replace h := ifP h hc7
      refine vg_iconst (pc := 12) (dK D_Searches_lateItemAt 7 rfl) ?_
      refine g_istoren (pc := 13) (i0 := 2) (ls2 := [(2, V (-1)), (0, .ref c0), (1, V a1)]) (dK D_Searches_lateItemAt 8 rfl) rfl (ltK rfl) rfl ?_
      refine vg_iconst (pc := 14) (dK D_Searches_lateItemAt 9 rfl) ?_
      refine g_istoren (pc := 15) (i0 := 3) (ls2 := [(3, V 0), (2, V (-1)), (0, .ref c0), (1, V a1)]) (dK D_Searches_lateItemAt 10 rfl) rfl (ltK rfl) rfl ?_
      refine bnSE h (fun p6 e_p6 h => ?_) (fun p5 e_p5 h => ?_)
      · refine gL_weak (ls' := [(0, .ref c0), (1, V a1), (2, V (-1)), (3, V 0)]) (sbc 2 rfl (sbc 3 rfl (sbc 1 rfl (sbc 0 rfl sbn)))) ?_
        refine tl_Searches_lateItemAt_16 hc0 ha1 (fun _ e => slr e) (fun p e hr_p6 => ?_) FU ((-1), 0) e_p6 (inRk rfl) (inRk rfl)
        have e := Sum.inl.inj e
        subst e
        exact (by obtain rfl := Option.some.inj h; exact ⟨rfl, hr_p6, rfl⟩)
      · refine gL_weak (ls' := [(0, .ref c0), (1, V a1), (2, V (-1)), (3, V 0)]) (sbc 2 rfl (sbc 3 rfl (sbc 1 rfl (sbc 0 rfl sbn)))) ?_
        refine tl_Searches_lateItemAt_16 hc0 ha1 (fun p e hx2_p5 => ?_) (fun _ e => srl e) FU ((-1), 0) e_p5 (inRk rfl) (inRk rfl)
        have e := Sum.inr.inj e
        subst e
        refine g_iloadn (pc := 40) (i0 := 2) (j := 0) (dK D_Searches_lateItemAt 25 rfl) rfl rfl ?_
        refine vg_sipush (pc := 41) (dK D_Searches_lateItemAt 26 rfl) rfl ?_
        refine vg_irem (pc := 44) (dK D_Searches_lateItemAt 27 rfl) hx2_p5 (inRk rfl) (by decide) ?_
        refine gtop (x := (wr (p5.tmod 200))) rfl ?_
        exact vg_iretI (pc := 45) (r := (wr (p5.tmod 200))) (dK D_Searches_lateItemAt 28 rfl) rfl (leK rfl) (leK rfl) (fun _ => rfl) (by obtain rfl := Option.some.inj h; exact ⟨rfl, (wr_in _), rfl⟩)
    · replace h := ifN h hc7
      refine vg_iconst (pc := 10) (dK D_Searches_lateItemAt 5 rfl) ?_
      exact vg_iretI (pc := 11) (r := (-1)) (dK D_Searches_lateItemAt 6 rfl) rfl (leK rfl) (leK rfl) (fun _ => rfl) (by obtain rfl := Option.some.inj h; exact ⟨rfl, (inRk rfl), rfl⟩)
def fn_FP_lateItem (c0 : Nat) (a1 : Int) (S : St) : Option (Int) := bnO (fn_Searches_lateItemAt (tgt c0 2) a1 S) fun p1 => some p1
theorem tf_FP_lateItem {E : EV} {X : XT} {c0 : Nat} (hc0 : HC X 10 c0) {a1 : Int} (ha1 : inR a1) {S : St} {q : Int} (h : fn_FP_lateItem c0 a1 S = some q) : Ev E M_FP_lateItem [.ref c0, V a1] (WX X S) 0 0 (KI X q S) := by
  refine Ev.of pn_FP rfl (leK rfl) ?_
  show Go E M_FP_lateItem 0 0 0 [(0, .ref c0), (1, V a1)] [] (WX X S) 0 0 (KI X q S)
  unfold fn_FP_lateItem at h
  refine g_aloadn (pc := 0) (i0 := 0) (j := 0) (dK D_FP_lateItem 0 rfl) rfl rfl ?_
  refine vg_getO (pc := 1) (ci := 10) (f := 2) (dK D_FP_lateItem 1 rfl) q_424 hc0 (ltK rfl) (ltK rfl) rfl ?_
  refine g_iloadn (pc := 4) (i0 := 1) (j := 1) (dK D_FP_lateItem 2 rfl) rfl rfl ?_
  refine bnE h (fun p1 e_p1 h => ?_)
  refine vg_cV (pc := 5) (As := [V a1]) (rest := []) (mc' := 0) (ms' := 0) (dK D_FP_lateItem 3 rfl) K_FP_312 (fitK rfl) (ltK rfl) (hw_10_2 hc0) rfl (leK rfl) (leK rfl) (leK rfl) (tf_Searches_lateItemAt (hw_10_2 hc0) ha1 e_p1) (kcI (fun h_p1 => ?_))
  exact vg_iretI (pc := 8) (r := p1) (dK D_FP_lateItem 4 rfl) rfl (leK rfl) (leK rfl) (fun _ => rfl) (by obtain rfl := Option.some.inj h; exact ⟨rfl, h_p1, rfl⟩)
def lb_Searches_readyLast_6 (c0 : Nat) (S : St) (go : Int × Int × Int → Option (Int × Int)) (a1 : Int) (a2 : Int) (a3 : Int) : Option (Int × Int) := if (g S (tgt (tgt c0 1) 0) 7) ≤ a3 then (some (a1, a2)) else (bnO (fn_Searches_adIsOpen c0 a3 S) fun p1 => if p1 = true then (if 0 ≤ a3 ∧ a3 < 40 then (if (g S (tgt (tgt (tgt c0 1) 0) 5) a3.toNat) ≤ a2 then (nm (wr (a3 + 1)) fun v5 => go (a1, a2, v5)) else (nm (wr (a3 + 1)) fun v6 => go (a3, (g S (tgt (tgt (tgt c0 1) 0) 5) a3.toNat), v6))) else none) else (nm (wr (a3 + 1)) fun v3 => go (a1, a2, v3)))
def lo_Searches_readyLast_6 (c0 : Nat) (S : St) : Nat → Int × Int × Int → Option (Int × Int) := lp fun go p => lb_Searches_readyLast_6 c0 S go p.1 p.2.1 p.2.2
theorem tl_Searches_readyLast_6 {E : EV} {X : XT} {c0 : Nat} (hc0 : HC X 6 c0) {S : St} {K : RK → PS → Prop} {q : Int × Int} (hx : inR q.1 → inR q.2 → Go E M_Searches_readyLast 0 0 65 [(0, .ref c0), (1, V q.1), (2, V q.2)] [] (WX X S) 0 0 K) : ∀ n a, lo_Searches_readyLast_6 c0 S n a = some q → inR a.1 → inR a.2.1 → inR a.2.2 → Go E M_Searches_readyLast 0 0 6 [(0, .ref c0), (1, V a.1), (2, V a.2.1), (3, V a.2.2)] [] (WX X S) 0 0 K := by
  refine lp_ind (P := fun a : Int × Int × Int => inR a.1 → inR a.2.1 → inR a.2.2 → Go E M_Searches_readyLast 0 0 6 [(0, .ref c0), (1, V a.1), (2, V a.2.1), (3, V a.2.2)] [] (WX X S) 0 0 K) (fun go ih a h => ?_)
  obtain ⟨a1, a2, a3⟩ := a
  intro ha1 ha2 ha3
  show Go E M_Searches_readyLast 0 0 6 [(0, .ref c0), (1, V a1), (2, V a2), (3, V a3)] [] (WX X S) 0 0 K
  replace h : lb_Searches_readyLast_6 c0 S go a1 a2 a3 = some q := h
  unfold lb_Searches_readyLast_6 at h
  refine g_iloadn (pc := 6) (i0 := 3) (j := 3) (dK D_Searches_readyLast_0 6 rfl) rfl rfl ?_
  refine g_aloadn (pc := 7) (i0 := 0) (j := 0) (dK D_Searches_readyLast_0 7 rfl) rfl rfl ?_
  refine vg_getO (pc := 8) (ci := 6) (f := 1) (dK D_Searches_readyLast_0 8 rfl) q_370 hc0 (ltK rfl) (ltK rfl) rfl ?_
  refine vg_getO (pc := 11) (ci := 8) (f := 0) (dK D_Searches_readyLast_0 9 rfl) q_221 (hw_6_1 hc0) (ltK rfl) (ltK rfl) rfl ?_
  refine vg_getI (pc := 14) (ci := 0) (f := 7) (dK D_Searches_readyLast_0 10 rfl) q_106 (hw_8_0 (hw_6_1 hc0)) (ltK rfl) (ltK rfl) rfl ?_
  refine vg_icmp_ge (pc := 17) (t := 65) (dK D_Searches_readyLast_0 11 rfl) rfl ha3 (g_in _ _ _) (fun hc8 => ?_) (fun hc8 => ?_)
  · replace h := ifP h hc8
    obtain rfl := Option.some.inj h
    refine gL_weak (ls' := [(0, .ref c0), (1, V a1), (2, V a2)]) (sbc 0 rfl (sbc 1 rfl (sbc 2 rfl sbn))) ?_
    exact hx ha1 ha2
  · replace h := ifN h hc8
    refine g_aloadn (pc := 20) (i0 := 0) (j := 0) (dK D_Searches_readyLast_0 12 rfl) rfl rfl ?_
    refine g_iloadn (pc := 21) (i0 := 3) (j := 3) (dK D_Searches_readyLast_0 13 rfl) rfl rfl ?_
    refine bnE h (fun p1 e_p1 h => ?_)
    refine vg_cV (pc := 22) (As := [V a3]) (rest := []) (mc' := 0) (ms' := 0) (dK D_Searches_readyLast_0 14 rfl) K_Searches_204 (fitK rfl) (ltK rfl) hc0 rfl (leK rfl) (leK rfl) (leK rfl) (tf_Searches_adIsOpen hc0 ha3 e_p1) (kcB ?_)
    refine vg_ifB_eq (pc := 25) (b := p1) (t := 59) (dK D_Searches_readyLast_0 15 rfl) rfl (fun hc2 => ?_) (fun hc2 => ?_)
    · replace h := ifP h hc2
      refine g_aloadn (pc := 28) (i0 := 0) (j := 0) (dK D_Searches_readyLast_0 16 rfl) rfl rfl ?_
      refine vg_getO (pc := 29) (ci := 6) (f := 1) (dK D_Searches_readyLast_0 17 rfl) q_370 hc0 (ltK rfl) (ltK rfl) rfl ?_
      refine vg_getO (pc := 32) (ci := 8) (f := 0) (dK D_Searches_readyLast_0 18 rfl) q_221 (hw_6_1 hc0) (ltK rfl) (ltK rfl) rfl ?_
      refine vg_getA (pc := 35) (ci := 0) (f := 5) (dK D_Searches_readyLast_0 19 rfl) q_98 (hw_8_0 (hw_6_1 hc0)) (ltK rfl) (ltK rfl) rfl ?_
      refine g_iloadn (pc := 38) (i0 := 3) (j := 3) (dK D_Searches_readyLast_0 20 rfl) rfl rfl ?_
      refine gdE h (fun hi4 h => ?_)
      refine vg_iaload (pc := 39) (j := a3.toNat) (dK D_Searches_readyLast_0 21 rfl) (hw_0_5 (hw_8_0 (hw_6_1 hc0))) rfl hi4 rfl ?_
      refine g_iloadn (pc := 40) (i0 := 2) (j := 2) (dK D_Searches_readyLast_0 22 rfl) rfl rfl ?_
      refine vg_icmp_le (pc := 41) (t := 59) (dK D_Searches_readyLast_0 23 rfl) rfl (g_in _ _ _) ha2 (fun hc7 => ?_) (fun hc7 => ?_)
      · replace h := ifP h hc7
        refine nmE h (fun v5 e_v5 h => ?_)
        refine vg_iinc (pc := 59) (j := 3) (a := a3) (z := 1) (ls2 := [(3, V v5), (0, .ref c0), (1, V a1), (2, V a2)]) (dK D_Searches_readyLast_0 33 rfl) rfl e_v5 (ltK rfl) rfl ?_
        refine g_goto (pc := 62) (tgt := 6) (dK D_Searches_readyLast_0 34 rfl) rfl ?_
        refine gL_weak (ls' := [(0, .ref c0), (1, V a1), (2, V a2), (3, V v5)]) (sbc 1 rfl (sbc 2 rfl (sbc 3 rfl (sbc 0 rfl sbn)))) ?_
        replace h := ih _ h
        exact h ha1 ha2 (Vn_in e_v5)
      · replace h := ifN h hc7
        refine g_iloadn (pc := 44) (i0 := 3) (j := 3) (dK D_Searches_readyLast_0 24 rfl) rfl rfl ?_
        refine g_istoren (pc := 45) (i0 := 1) (ls2 := [(1, V a3), (0, .ref c0), (2, V a2), (3, V a3)]) (dK D_Searches_readyLast_0 25 rfl) rfl (ltK rfl) rfl ?_
        refine g_aloadn (pc := 46) (i0 := 0) (j := 1) (dK D_Searches_readyLast_0 26 rfl) rfl rfl ?_
        refine vg_getO (pc := 47) (ci := 6) (f := 1) (dK D_Searches_readyLast_0 27 rfl) q_370 hc0 (ltK rfl) (ltK rfl) rfl ?_
        refine vg_getO (pc := 50) (ci := 8) (f := 0) (dK D_Searches_readyLast_0 28 rfl) q_221 (hw_6_1 hc0) (ltK rfl) (ltK rfl) rfl ?_
        refine vg_getA (pc := 53) (ci := 0) (f := 5) (dK D_Searches_readyLast_0 29 rfl) q_98 (hw_8_0 (hw_6_1 hc0)) (ltK rfl) (ltK rfl) rfl ?_
        refine g_iloadn (pc := 56) (i0 := 3) (j := 3) (dK D_Searches_readyLast_0 30 rfl) rfl rfl ?_
        refine vg_iaload (pc := 57) (j := a3.toNat) (dK D_Searches_readyLast_0 31 rfl) (hw_0_5 (hw_8_0 (hw_6_1 hc0))) rfl hi4 rfl ?_
        refine g_istoren (pc := 58) (i0 := 2) (ls2 := [(2, V (g S (tgt (tgt (tgt c0 1) 0) 5) a3.toNat)), (1, V a3), (0, .ref c0), (3, V a3)]) (dK D_Searches_readyLast_0 32 rfl) rfl (ltK rfl) rfl ?_
        refine nmE h (fun v6 e_v6 h => ?_)
        refine vg_iinc (pc := 59) (j := 3) (a := a3) (z := 1) (ls2 := [(3, V v6), (2, V (g S (tgt (tgt (tgt c0 1) 0) 5) a3.toNat)), (1, V a3), (0, .ref c0)]) (dK D_Searches_readyLast_0 33 rfl) rfl e_v6 (ltK rfl) rfl ?_
        refine g_goto (pc := 62) (tgt := 6) (dK D_Searches_readyLast_0 34 rfl) rfl ?_
        refine gL_weak (ls' := [(0, .ref c0), (1, V a3), (2, V (g S (tgt (tgt (tgt c0 1) 0) 5) a3.toNat)), (3, V v6)]) (sbc 3 rfl (sbc 2 rfl (sbc 1 rfl (sbc 0 rfl sbn)))) ?_
        replace h := ih _ h
        exact h ha3 (g_in _ _ _) (Vn_in e_v6)
    · replace h := ifN h hc2
      refine nmE h (fun v3 e_v3 h => ?_)
      refine vg_iinc (pc := 59) (j := 3) (a := a3) (z := 1) (ls2 := [(3, V v3), (0, .ref c0), (1, V a1), (2, V a2)]) (dK D_Searches_readyLast_0 33 rfl) rfl e_v3 (ltK rfl) rfl ?_
      refine g_goto (pc := 62) (tgt := 6) (dK D_Searches_readyLast_0 34 rfl) rfl ?_
      refine gL_weak (ls' := [(0, .ref c0), (1, V a1), (2, V a2), (3, V v3)]) (sbc 1 rfl (sbc 2 rfl (sbc 3 rfl (sbc 0 rfl sbn)))) ?_
      replace h := ih _ h
      exact h ha1 ha2 (Vn_in e_v3)
def lb_Searches_readyLast_67 (c0 : Nat) (S : St) (go : Int × Int × Int → Option (Int)) (a1 : Int) (a2 : Int) (a3 : Int) : Option (Int) := if (g S (tgt (tgt c0 1) 1) 5) ≤ a3 then (some a1) else (bnO (fn_Plan_storyIsOpen (tgt c0 0) a3 S) fun p10 => if p10 = true then (if 0 ≤ a3 ∧ a3 < 10 then (if (g S (tgt (tgt (tgt c0 1) 1) 3) a3.toNat) ≤ a2 then (nm (wr (a3 + 1)) fun v14 => go (a1, a2, v14)) else (nm (wr (100 + a3)) fun v15 => nm (wr (a3 + 1)) fun v16 => go (v15, (g S (tgt (tgt (tgt c0 1) 1) 3) a3.toNat), v16))) else none) else (nm (wr (a3 + 1)) fun v12 => go (a1, a2, v12)))
def lo_Searches_readyLast_67 (c0 : Nat) (S : St) : Nat → Int × Int × Int → Option (Int) := lp fun go p => lb_Searches_readyLast_67 c0 S go p.1 p.2.1 p.2.2
theorem tl_Searches_readyLast_67 {E : EV} {X : XT} {c0 : Nat} (hc0 : HC X 6 c0) {S : St} {K : RK → PS → Prop} {q : Int} (hx : inR q → Go E M_Searches_readyLast 0 0 132 [(1, V q)] [] (WX X S) 0 0 K) : ∀ n a, lo_Searches_readyLast_67 c0 S n a = some q → inR a.1 → inR a.2.1 → inR a.2.2 → Go E M_Searches_readyLast 0 0 67 [(0, .ref c0), (1, V a.1), (2, V a.2.1), (3, V a.2.2)] [] (WX X S) 0 0 K := by
  refine lp_ind (P := fun a : Int × Int × Int => inR a.1 → inR a.2.1 → inR a.2.2 → Go E M_Searches_readyLast 0 0 67 [(0, .ref c0), (1, V a.1), (2, V a.2.1), (3, V a.2.2)] [] (WX X S) 0 0 K) (fun go ih a h => ?_)
  obtain ⟨a1, a2, a3⟩ := a
  intro ha1 ha2 ha3
  show Go E M_Searches_readyLast 0 0 67 [(0, .ref c0), (1, V a1), (2, V a2), (3, V a3)] [] (WX X S) 0 0 K
  replace h : lb_Searches_readyLast_67 c0 S go a1 a2 a3 = some q := h
  unfold lb_Searches_readyLast_67 at h
  refine g_iloadn (pc := 67) (i0 := 3) (j := 3) (dK D_Searches_readyLast_0 37 rfl) rfl rfl ?_
  refine g_aloadn (pc := 68) (i0 := 0) (j := 0) (dK D_Searches_readyLast_0 38 rfl) rfl rfl ?_
  refine vg_getO (pc := 69) (ci := 6) (f := 1) (dK D_Searches_readyLast_0 39 rfl) q_370 hc0 (ltK rfl) (ltK rfl) rfl ?_
  refine vg_getO (pc := 72) (ci := 8) (f := 1) (dK D_Searches_readyLast_0 40 rfl) q_227 (hw_6_1 hc0) (ltK rfl) (ltK rfl) rfl ?_
  refine vg_getI (pc := 75) (ci := 9) (f := 5) (dK D_Searches_readyLast_0 41 rfl) q_155 (hw_8_1 (hw_6_1 hc0)) (ltK rfl) (ltK rfl) rfl ?_
  refine vg_icmp_ge (pc := 78) (t := 132) (dK D_Searches_readyLast_0 42 rfl) rfl ha3 (g_in _ _ _) (fun hc18 => ?_) (fun hc18 => ?_)
  · replace h := ifP h hc18
    obtain rfl := Option.some.inj h
    refine gL_weak (ls' := [(1, V a1)]) (sbc 1 rfl sbn) ?_
    exact hx ha1
  · replace h := ifN h hc18
    refine g_aloadn (pc := 81) (i0 := 0) (j := 0) (dK D_Searches_readyLast_0 43 rfl) rfl rfl ?_
    refine vg_getO (pc := 82) (ci := 6) (f := 0) (dK D_Searches_readyLast_0 44 rfl) q_368 hc0 (ltK rfl) (ltK rfl) rfl ?_
    refine g_iloadn (pc := 85) (i0 := 3) (j := 3) (dK D_Searches_readyLast_0 45 rfl) rfl rfl ?_
    refine bnE h (fun p10 e_p10 h => ?_)
    refine vg_cV (pc := 86) (As := [V a3]) (rest := []) (mc' := 0) (ms' := 0) (dK D_Searches_readyLast_0 46 rfl) K_Searches_220 (fitK rfl) (ltK rfl) (hw_6_0 hc0) rfl (leK rfl) (leK rfl) (leK rfl) (tf_Plan_storyIsOpen (hw_6_0 hc0) ha3 e_p10) (kcB ?_)
    refine vg_ifB_eq (pc := 89) (b := p10) (t := 126) (dK D_Searches_readyLast_0 47 rfl) rfl (fun hc11 => ?_) (fun hc11 => ?_)
    · replace h := ifP h hc11
      refine g_aloadn (pc := 92) (i0 := 0) (j := 0) (dK D_Searches_readyLast_0 48 rfl) rfl rfl ?_
      refine vg_getO (pc := 93) (ci := 6) (f := 1) (dK D_Searches_readyLast_0 49 rfl) q_370 hc0 (ltK rfl) (ltK rfl) rfl ?_
      refine vg_getO (pc := 96) (ci := 8) (f := 1) (dK D_Searches_readyLast_1 0 rfl) q_227 (hw_6_1 hc0) (ltK rfl) (ltK rfl) rfl ?_
      refine vg_getA (pc := 99) (ci := 9) (f := 3) (dK D_Searches_readyLast_1 1 rfl) q_146 (hw_8_1 (hw_6_1 hc0)) (ltK rfl) (ltK rfl) rfl ?_
      refine g_iloadn (pc := 102) (i0 := 3) (j := 3) (dK D_Searches_readyLast_1 2 rfl) rfl rfl ?_
      refine gdE h (fun hi13 h => ?_)
      refine vg_iaload (pc := 103) (j := a3.toNat) (dK D_Searches_readyLast_1 3 rfl) (hw_9_3 (hw_8_1 (hw_6_1 hc0))) rfl hi13 rfl ?_
      refine g_iloadn (pc := 104) (i0 := 2) (j := 2) (dK D_Searches_readyLast_1 4 rfl) rfl rfl ?_
      refine vg_icmp_le (pc := 105) (t := 126) (dK D_Searches_readyLast_1 5 rfl) rfl (g_in _ _ _) ha2 (fun hc17 => ?_) (fun hc17 => ?_)
      · replace h := ifP h hc17
        refine nmE h (fun v14 e_v14 h => ?_)
        refine vg_iinc (pc := 126) (j := 3) (a := a3) (z := 1) (ls2 := [(3, V v14), (0, .ref c0), (1, V a1), (2, V a2)]) (dK D_Searches_readyLast_1 17 rfl) rfl e_v14 (ltK rfl) rfl ?_
        refine g_goto (pc := 129) (tgt := 67) (dK D_Searches_readyLast_1 18 rfl) rfl ?_
        refine gL_weak (ls' := [(0, .ref c0), (1, V a1), (2, V a2), (3, V v14)]) (sbc 1 rfl (sbc 2 rfl (sbc 3 rfl (sbc 0 rfl sbn)))) ?_
        replace h := ih _ h
        exact h ha1 ha2 (Vn_in e_v14)
      · replace h := ifN h hc17
        refine vg_bipush (pc := 108) (dK D_Searches_readyLast_1 6 rfl) rfl ?_
        refine g_iloadn (pc := 110) (i0 := 3) (j := 3) (dK D_Searches_readyLast_1 7 rfl) rfl rfl ?_
        refine vg_iadd (pc := 111) (dK D_Searches_readyLast_1 8 rfl) ?_
        refine nmE h (fun v15 e_v15 h => ?_)
        refine gtop e_v15 ?_
        refine g_istoren (pc := 112) (i0 := 1) (ls2 := [(1, V v15), (0, .ref c0), (2, V a2), (3, V a3)]) (dK D_Searches_readyLast_1 9 rfl) rfl (ltK rfl) rfl ?_
        refine g_aloadn (pc := 113) (i0 := 0) (j := 1) (dK D_Searches_readyLast_1 10 rfl) rfl rfl ?_
        refine vg_getO (pc := 114) (ci := 6) (f := 1) (dK D_Searches_readyLast_1 11 rfl) q_370 hc0 (ltK rfl) (ltK rfl) rfl ?_
        refine vg_getO (pc := 117) (ci := 8) (f := 1) (dK D_Searches_readyLast_1 12 rfl) q_227 (hw_6_1 hc0) (ltK rfl) (ltK rfl) rfl ?_
        refine vg_getA (pc := 120) (ci := 9) (f := 3) (dK D_Searches_readyLast_1 13 rfl) q_146 (hw_8_1 (hw_6_1 hc0)) (ltK rfl) (ltK rfl) rfl ?_
        refine g_iloadn (pc := 123) (i0 := 3) (j := 3) (dK D_Searches_readyLast_1 14 rfl) rfl rfl ?_
        refine vg_iaload (pc := 124) (j := a3.toNat) (dK D_Searches_readyLast_1 15 rfl) (hw_9_3 (hw_8_1 (hw_6_1 hc0))) rfl hi13 rfl ?_
        refine g_istoren (pc := 125) (i0 := 2) (ls2 := [(2, V (g S (tgt (tgt (tgt c0 1) 1) 3) a3.toNat)), (1, V v15), (0, .ref c0), (3, V a3)]) (dK D_Searches_readyLast_1 16 rfl) rfl (ltK rfl) rfl ?_
        refine nmE h (fun v16 e_v16 h => ?_)
        refine vg_iinc (pc := 126) (j := 3) (a := a3) (z := 1) (ls2 := [(3, V v16), (2, V (g S (tgt (tgt (tgt c0 1) 1) 3) a3.toNat)), (1, V v15), (0, .ref c0)]) (dK D_Searches_readyLast_1 17 rfl) rfl e_v16 (ltK rfl) rfl ?_
        refine g_goto (pc := 129) (tgt := 67) (dK D_Searches_readyLast_1 18 rfl) rfl ?_
        refine gL_weak (ls' := [(0, .ref c0), (1, V v15), (2, V (g S (tgt (tgt (tgt c0 1) 1) 3) a3.toNat)), (3, V v16)]) (sbc 3 rfl (sbc 2 rfl (sbc 1 rfl (sbc 0 rfl sbn)))) ?_
        replace h := ih _ h
        exact h (Vn_in e_v15) (g_in _ _ _) (Vn_in e_v16)
    · replace h := ifN h hc11
      refine nmE h (fun v12 e_v12 h => ?_)
      refine vg_iinc (pc := 126) (j := 3) (a := a3) (z := 1) (ls2 := [(3, V v12), (0, .ref c0), (1, V a1), (2, V a2)]) (dK D_Searches_readyLast_1 17 rfl) rfl e_v12 (ltK rfl) rfl ?_
      refine g_goto (pc := 129) (tgt := 67) (dK D_Searches_readyLast_1 18 rfl) rfl ?_
      refine gL_weak (ls' := [(0, .ref c0), (1, V a1), (2, V a2), (3, V v12)]) (sbc 1 rfl (sbc 2 rfl (sbc 3 rfl (sbc 0 rfl sbn)))) ?_
      replace h := ih _ h
      exact h ha1 ha2 (Vn_in e_v12)
def fn_Searches_readyLast (c0 : Nat) (S : St) : Option (Int) := bnO (lo_Searches_readyLast_6 c0 S FU ((-1), (-1), 0)) fun p9 => bnO (lo_Searches_readyLast_67 c0 S FU (p9.1, p9.2, 0)) fun p19 => some p19
theorem tf_Searches_readyLast {E : EV} {X : XT} {c0 : Nat} (hc0 : HC X 6 c0) {S : St} {q : Int} (h : fn_Searches_readyLast c0 S = some q) : Ev E M_Searches_readyLast [.ref c0] (WX X S) 0 0 (KI X q S) := by
  refine Ev.of pn_Searches rfl (leK rfl) ?_
  show Go E M_Searches_readyLast 0 0 0 [(0, .ref c0)] [] (WX X S) 0 0 (KI X q S)
  unfold fn_Searches_readyLast at h
  refine vg_iconst (pc := 0) (dK D_Searches_readyLast_0 0 rfl) ?_
  refine g_istoren (pc := 1) (i0 := 1) (ls2 := [(1, V (-1)), (0, .ref c0)]) (dK D_Searches_readyLast_0 1 rfl) rfl (ltK rfl) rfl ?_
  refine vg_iconst (pc := 2) (dK D_Searches_readyLast_0 2 rfl) ?_
  refine g_istoren (pc := 3) (i0 := 2) (ls2 := [(2, V (-1)), (1, V (-1)), (0, .ref c0)]) (dK D_Searches_readyLast_0 3 rfl) rfl (ltK rfl) rfl ?_
  refine vg_iconst (pc := 4) (dK D_Searches_readyLast_0 4 rfl) ?_
  refine g_istoren (pc := 5) (i0 := 3) (ls2 := [(3, V 0), (2, V (-1)), (1, V (-1)), (0, .ref c0)]) (dK D_Searches_readyLast_0 5 rfl) rfl (ltK rfl) rfl ?_
  refine bnE h (fun p9 e_p9 h => ?_)
  refine gL_weak (ls' := [(0, .ref c0), (1, V (-1)), (2, V (-1)), (3, V 0)]) (sbc 3 rfl (sbc 2 rfl (sbc 1 rfl (sbc 0 rfl sbn)))) ?_
  refine tl_Searches_readyLast_6 hc0 (fun hx1_p9 hx2_p9 => ?_) FU ((-1), (-1), 0) e_p9 (inRk rfl) (inRk rfl) (inRk rfl)
  refine vg_iconst (pc := 65) (dK D_Searches_readyLast_0 35 rfl) ?_
  refine g_istoren (pc := 66) (i0 := 3) (ls2 := [(3, V 0), (0, .ref c0), (1, V p9.1), (2, V p9.2)]) (dK D_Searches_readyLast_0 36 rfl) rfl (ltK rfl) rfl ?_
  refine bnE h (fun p19 e_p19 h => ?_)
  refine gL_weak (ls' := [(0, .ref c0), (1, V p9.1), (2, V p9.2), (3, V 0)]) (sbc 1 rfl (sbc 2 rfl (sbc 3 rfl (sbc 0 rfl sbn)))) ?_
  refine tl_Searches_readyLast_67 hc0 (fun hx1_p19 => ?_) FU (p9.1, p9.2, 0) e_p19 hx1_p9 hx2_p9 (inRk rfl)
  refine g_iloadn (pc := 132) (i0 := 1) (j := 0) (dK D_Searches_readyLast_1 19 rfl) rfl rfl ?_
  exact vg_iretI (pc := 133) (r := p19) (dK D_Searches_readyLast_1 20 rfl) rfl (leK rfl) (leK rfl) (fun _ => rfl) (by obtain rfl := Option.some.inj h; exact ⟨rfl, hx1_p19, rfl⟩)
def fn_FP_lastReady (c0 : Nat) (S : St) : Option (Int) := bnO (fn_Searches_readyLast (tgt c0 2) S) fun p1 => some p1
theorem tf_FP_lastReady {E : EV} {X : XT} {c0 : Nat} (hc0 : HC X 10 c0) {S : St} {q : Int} (h : fn_FP_lastReady c0 S = some q) : Ev E M_FP_lastReady [.ref c0] (WX X S) 0 0 (KI X q S) := by
  refine Ev.of pn_FP rfl (leK rfl) ?_
  show Go E M_FP_lastReady 0 0 0 [(0, .ref c0)] [] (WX X S) 0 0 (KI X q S)
  unfold fn_FP_lastReady at h
  refine g_aloadn (pc := 0) (i0 := 0) (j := 0) (dK D_FP_lastReady 0 rfl) rfl rfl ?_
  refine vg_getO (pc := 1) (ci := 10) (f := 2) (dK D_FP_lastReady 1 rfl) q_424 hc0 (ltK rfl) (ltK rfl) rfl ?_
  refine bnE h (fun p1 e_p1 h => ?_)
  refine vg_cV (pc := 4) (As := []) (rest := []) (mc' := 0) (ms' := 0) (dK D_FP_lastReady 2 rfl) K_FP_315 (fitK rfl) (ltK rfl) (hw_10_2 hc0) rfl (leK rfl) (leK rfl) (leK rfl) (tf_Searches_readyLast (hw_10_2 hc0) e_p1) (kcI (fun h_p1 => ?_))
  exact vg_iretI (pc := 7) (r := p1) (dK D_FP_lastReady 3 rfl) rfl (leK rfl) (leK rfl) (fun _ => rfl) (by obtain rfl := Option.some.inj h; exact ⟨rfl, h_p1, rfl⟩)
def lb_FP_emptiest_11 (c0 : Nat) (a1 : Int) (a3 : Int) (S : St) (go : Int × Int → Option ((Int) ⊕ (Int))) (a2 : Int) (a4 : Int) : Option ((Int) ⊕ (Int)) := if (g S (tgt c0 3) 1) < a4 then (some (.inr a2)) else (if 0 ≤ a4 ∧ a4 < 65 then (if (g S (tgt (tgt c0 3) 5) a4.toNat) = a3 then (if a2 = a1 then (some (.inl a4)) else (nm (wr (a2 + 1)) fun v3 => nm (wr (a4 + 1)) fun v4 => go (v3, v4))) else (nm (wr (a4 + 1)) fun v2 => go (a2, v2))) else none)
def lo_FP_emptiest_11 (c0 : Nat) (a1 : Int) (a3 : Int) (S : St) : Nat → Int × Int → Option ((Int) ⊕ (Int)) := lp fun go p => lb_FP_emptiest_11 c0 a1 a3 S go p.1 p.2
theorem tl_FP_emptiest_11 {E : EV} {X : XT} {c0 : Nat} (hc0 : HC X 10 c0) {a1 : Int} (ha1 : inR a1) {a3 : Int} (ha3 : inR a3) {S : St} {K : RK → PS → Prop} {q : (Int) ⊕ (Int)} (hx : ∀ p, q = .inr p → inR p → Go E M_FP_emptiest 0 0 54 [(0, .ref c0), (1, V a1), (2, V p), (3, V a3)] [] (WX X S) 0 0 K) (hr : ∀ p, q = .inl p → inR p → K (.inl (some (V p))) (WX X S)) : ∀ n a, lo_FP_emptiest_11 c0 a1 a3 S n a = some q → inR a.1 → inR a.2 → Go E M_FP_emptiest 0 0 11 [(0, .ref c0), (1, V a1), (2, V a.1), (3, V a3), (4, V a.2)] [] (WX X S) 0 0 K := by
  refine lp_ind (P := fun a : Int × Int => inR a.1 → inR a.2 → Go E M_FP_emptiest 0 0 11 [(0, .ref c0), (1, V a1), (2, V a.1), (3, V a3), (4, V a.2)] [] (WX X S) 0 0 K) (fun go ih a h => ?_)
  obtain ⟨a2, a4⟩ := a
  intro ha2 ha4
  show Go E M_FP_emptiest 0 0 11 [(0, .ref c0), (1, V a1), (2, V a2), (3, V a3), (4, V a4)] [] (WX X S) 0 0 K
  replace h : lb_FP_emptiest_11 c0 a1 a3 S go a2 a4 = some q := h
  unfold lb_FP_emptiest_11 at h
  refine g_iload (pc := 11) (j := 4) (dK D_FP_emptiest 8 rfl) rfl ?_
  refine g_aloadn (pc := 13) (i0 := 0) (j := 0) (dK D_FP_emptiest 9 rfl) rfl rfl ?_
  refine vg_getO (pc := 14) (ci := 10) (f := 3) (dK D_FP_emptiest 10 rfl) q_425 hc0 (ltK rfl) (ltK rfl) rfl ?_
  refine vg_getI (pc := 17) (ci := 4) (f := 1) (dK D_FP_emptiest 11 rfl) q_296 (hw_10_3 hc0) (ltK rfl) (ltK rfl) rfl ?_
  refine vg_icmp_gt (pc := 20) (t := 54) (dK D_FP_emptiest 12 rfl) rfl ha4 (g_in _ _ _) (fun hc7 => ?_) (fun hc7 => ?_)
  · replace h := ifP h hc7
    refine gL_weak (ls' := [(0, .ref c0), (1, V a1), (2, V a2), (3, V a3)]) (sbc 0 rfl (sbc 1 rfl (sbc 2 rfl (sbc 3 rfl sbn)))) ?_
    exact hx _ (Option.some.inj h).symm ha2
  · replace h := ifN h hc7
    refine g_aloadn (pc := 23) (i0 := 0) (j := 0) (dK D_FP_emptiest 13 rfl) rfl rfl ?_
    refine vg_getO (pc := 24) (ci := 10) (f := 3) (dK D_FP_emptiest 14 rfl) q_425 hc0 (ltK rfl) (ltK rfl) rfl ?_
    refine vg_getA (pc := 27) (ci := 4) (f := 5) (dK D_FP_emptiest 15 rfl) q_308 (hw_10_3 hc0) (ltK rfl) (ltK rfl) rfl ?_
    refine g_iload (pc := 30) (j := 4) (dK D_FP_emptiest 16 rfl) rfl ?_
    refine gdE h (fun hi1 h => ?_)
    refine vg_iaload (pc := 32) (j := a4.toNat) (dK D_FP_emptiest 17 rfl) (hw_4_5 (hw_10_3 hc0)) rfl hi1 rfl ?_
    refine g_iloadn (pc := 33) (i0 := 3) (j := 3) (dK D_FP_emptiest 18 rfl) rfl rfl ?_
    refine vg_icmp_ne (pc := 34) (t := 48) (dK D_FP_emptiest 19 rfl) rfl (g_in _ _ _) ha3 (fun hc6 => ?_) (fun hc6 => ?_)
    · replace h := ifN h hc6
      refine nmE h (fun v2 e_v2 h => ?_)
      refine vg_iinc (pc := 48) (j := 4) (a := a4) (z := 1) (ls2 := [(4, V v2), (0, .ref c0), (1, V a1), (2, V a2), (3, V a3)]) (dK D_FP_emptiest 26 rfl) rfl e_v2 (ltK rfl) rfl ?_
      refine g_goto (pc := 51) (tgt := 11) (dK D_FP_emptiest 27 rfl) rfl ?_
      refine gL_weak (ls' := [(0, .ref c0), (1, V a1), (2, V a2), (3, V a3), (4, V v2)]) (sbc 1 rfl (sbc 2 rfl (sbc 3 rfl (sbc 4 rfl (sbc 0 rfl sbn))))) ?_
      replace h := ih _ h
      exact h ha2 (Vn_in e_v2)
    · replace h := ifP h hc6
      refine g_iloadn (pc := 37) (i0 := 2) (j := 2) (dK D_FP_emptiest 20 rfl) rfl rfl ?_
      refine g_iloadn (pc := 38) (i0 := 1) (j := 1) (dK D_FP_emptiest 21 rfl) rfl rfl ?_
      refine vg_icmp_ne (pc := 39) (t := 45) (dK D_FP_emptiest 22 rfl) rfl ha2 ha1 (fun hc5 => ?_) (fun hc5 => ?_)
      · replace h := ifN h hc5
        refine nmE h (fun v3 e_v3 h => ?_)
        refine vg_iinc (pc := 45) (j := 2) (a := a2) (z := 1) (ls2 := [(2, V v3), (0, .ref c0), (1, V a1), (3, V a3), (4, V a4)]) (dK D_FP_emptiest 25 rfl) rfl e_v3 (ltK rfl) rfl ?_
        refine nmE h (fun v4 e_v4 h => ?_)
        refine vg_iinc (pc := 48) (j := 4) (a := a4) (z := 1) (ls2 := [(4, V v4), (2, V v3), (0, .ref c0), (1, V a1), (3, V a3)]) (dK D_FP_emptiest 26 rfl) rfl e_v4 (ltK rfl) rfl ?_
        refine g_goto (pc := 51) (tgt := 11) (dK D_FP_emptiest 27 rfl) rfl ?_
        refine gL_weak (ls' := [(0, .ref c0), (1, V a1), (2, V v3), (3, V a3), (4, V v4)]) (sbc 2 rfl (sbc 3 rfl (sbc 1 rfl (sbc 4 rfl (sbc 0 rfl sbn))))) ?_
        replace h := ih _ h
        exact h (Vn_in e_v3) (Vn_in e_v4)
      · replace h := ifP h hc5
        refine g_iload (pc := 42) (j := 4) (dK D_FP_emptiest 23 rfl) rfl ?_
        exact vg_iretI (pc := 44) (r := a4) (dK D_FP_emptiest 24 rfl) rfl (leK rfl) (leK rfl) (fun _ => rfl) (hr _ (Option.some.inj h).symm ha4)
def lb_FP_emptiest_4 (c0 : Nat) (a1 : Int) (S : St) (go : Int × Int → Option ((Int) ⊕ (Unit))) (a2 : Int) (a3 : Int) : Option ((Int) ⊕ (Unit)) := if a3 < 0 then (some (.inr ())) else (bnS (lo_FP_emptiest_11 c0 a1 a3 S FU (a2, 1)) (fun p10 => some (.inl p10)) fun p8 => nm (wr (a3 + (-1))) fun v9 => go (p8, v9))
def lo_FP_emptiest_4 (c0 : Nat) (a1 : Int) (S : St) : Nat → Int × Int → Option ((Int) ⊕ (Unit)) := lp fun go p => lb_FP_emptiest_4 c0 a1 S go p.1 p.2
theorem tl_FP_emptiest_4 {E : EV} {X : XT} {c0 : Nat} (hc0 : HC X 10 c0) {a1 : Int} (ha1 : inR a1) {S : St} {K : RK → PS → Prop} {q : (Int) ⊕ (Unit)} (hx : ∀ p, q = .inr p → Go E M_FP_emptiest 0 0 60 [] [] (WX X S) 0 0 K) (hr : ∀ p, q = .inl p → inR p → K (.inl (some (V p))) (WX X S)) : ∀ n a, lo_FP_emptiest_4 c0 a1 S n a = some q → inR a.1 → inR a.2 → Go E M_FP_emptiest 0 0 4 [(0, .ref c0), (1, V a1), (2, V a.1), (3, V a.2)] [] (WX X S) 0 0 K := by
  refine lp_ind (P := fun a : Int × Int => inR a.1 → inR a.2 → Go E M_FP_emptiest 0 0 4 [(0, .ref c0), (1, V a1), (2, V a.1), (3, V a.2)] [] (WX X S) 0 0 K) (fun go ih a h => ?_)
  obtain ⟨a2, a3⟩ := a
  intro ha2 ha3
  show Go E M_FP_emptiest 0 0 4 [(0, .ref c0), (1, V a1), (2, V a2), (3, V a3)] [] (WX X S) 0 0 K
  replace h : lb_FP_emptiest_4 c0 a1 S go a2 a3 = some q := h
  unfold lb_FP_emptiest_4 at h
  refine g_iloadn (pc := 4) (i0 := 3) (j := 3) (dK D_FP_emptiest 4 rfl) rfl rfl ?_
  refine vg_if_lt (pc := 5) (t := 60) (dK D_FP_emptiest 5 rfl) rfl ha3 (fun hc11 => ?_) (fun hc11 => ?_)
  · replace h := ifP h hc11
    refine gL_weak (ls' := []) sbn ?_
    exact hx _ (Option.some.inj h).symm 
  · replace h := ifN h hc11
    refine vg_iconst (pc := 8) (dK D_FP_emptiest 6 rfl) ?_
    refine g_istore (pc := 9) (ls2 := [(4, V 1), (0, .ref c0), (1, V a1), (2, V a2), (3, V a3)]) (dK D_FP_emptiest 7 rfl) (ltK rfl) rfl ?_
    refine bnSE h (fun p10 e_p10 h => ?_) (fun p8 e_p8 h => ?_)
    · refine gL_weak (ls' := [(0, .ref c0), (1, V a1), (2, V a2), (3, V a3), (4, V 1)]) (sbc 1 rfl (sbc 2 rfl (sbc 3 rfl (sbc 4 rfl (sbc 0 rfl sbn))))) ?_
      refine tl_FP_emptiest_11 hc0 ha1 ha3 (fun _ e => slr e) (fun p e hr_p10 => ?_) FU (a2, 1) e_p10 ha2 (inRk rfl)
      have e := Sum.inl.inj e
      subst e
      exact (hr _ (Option.some.inj h).symm hr_p10)
    · refine gL_weak (ls' := [(0, .ref c0), (1, V a1), (2, V a2), (3, V a3), (4, V 1)]) (sbc 1 rfl (sbc 2 rfl (sbc 3 rfl (sbc 4 rfl (sbc 0 rfl sbn))))) ?_
      refine tl_FP_emptiest_11 hc0 ha1 ha3 (fun p e hx2_p8 => ?_) (fun _ e => srl e) FU (a2, 1) e_p8 ha2 (inRk rfl)
      have e := Sum.inr.inj e
      subst e
      refine nmE h (fun v9 e_v9 h => ?_)
      refine vg_iinc (pc := 54) (j := 3) (a := a3) (z := -1) (ls2 := [(3, V v9), (0, .ref c0), (1, V a1), (2, V p8)]) (dK D_FP_emptiest 28 rfl) rfl e_v9 (ltK rfl) rfl ?_
      refine g_goto (pc := 57) (tgt := 4) (dK D_FP_emptiest 29 rfl) rfl ?_
      refine gL_weak (ls' := [(0, .ref c0), (1, V a1), (2, V p8), (3, V v9)]) (sbc 1 rfl (sbc 2 rfl (sbc 3 rfl (sbc 0 rfl sbn)))) ?_
      replace h := ih _ h
      exact h hx2_p8 (Vn_in e_v9)
def fn_FP_emptiest (c0 : Nat) (a1 : Int) (S : St) : Option (Int) := bnS (lo_FP_emptiest_4 c0 a1 S FU (0, 4)) (fun p13 => some p13) fun p12 => some (-1)
theorem tf_FP_emptiest {E : EV} {X : XT} {c0 : Nat} (hc0 : HC X 10 c0) {a1 : Int} (ha1 : inR a1) {S : St} {q : Int} (h : fn_FP_emptiest c0 a1 S = some q) : Ev E M_FP_emptiest [.ref c0, V a1] (WX X S) 0 0 (KI X q S) := by
  refine Ev.of pn_FP rfl (leK rfl) ?_
  show Go E M_FP_emptiest 0 0 0 [(0, .ref c0), (1, V a1)] [] (WX X S) 0 0 (KI X q S)
  unfold fn_FP_emptiest at h
  refine vg_iconst (pc := 0) (dK D_FP_emptiest 0 rfl) ?_
  refine g_istoren (pc := 1) (i0 := 2) (ls2 := [(2, V 0), (0, .ref c0), (1, V a1)]) (dK D_FP_emptiest 1 rfl) rfl (ltK rfl) rfl ?_
  refine vg_iconst (pc := 2) (dK D_FP_emptiest 2 rfl) ?_
  refine g_istoren (pc := 3) (i0 := 3) (ls2 := [(3, V 4), (2, V 0), (0, .ref c0), (1, V a1)]) (dK D_FP_emptiest 3 rfl) rfl (ltK rfl) rfl ?_
  refine bnSE h (fun p13 e_p13 h => ?_) (fun p12 e_p12 h => ?_)
  · refine gL_weak (ls' := [(0, .ref c0), (1, V a1), (2, V 0), (3, V 4)]) (sbc 2 rfl (sbc 3 rfl (sbc 1 rfl (sbc 0 rfl sbn)))) ?_
    refine tl_FP_emptiest_4 hc0 ha1 (fun _ e => slr e) (fun p e hr_p13 => ?_) FU (0, 4) e_p13 (inRk rfl) (inRk rfl)
    have e := Sum.inl.inj e
    subst e
    exact (by obtain rfl := Option.some.inj h; exact ⟨rfl, hr_p13, rfl⟩)
  · refine gL_weak (ls' := [(0, .ref c0), (1, V a1), (2, V 0), (3, V 4)]) (sbc 2 rfl (sbc 3 rfl (sbc 1 rfl (sbc 0 rfl sbn)))) ?_
    refine tl_FP_emptiest_4 hc0 ha1 (fun p e => ?_) (fun _ e => srl e) FU (0, 4) e_p12 (inRk rfl) (inRk rfl)
    have e := Sum.inr.inj e
    subst e
    refine vg_iconst (pc := 60) (dK D_FP_emptiest 30 rfl) ?_
    exact vg_iretI (pc := 61) (r := (-1)) (dK D_FP_emptiest 31 rfl) rfl (leK rfl) (leK rfl) (fun _ => rfl) (by obtain rfl := Option.some.inj h; exact ⟨rfl, (inRk rfl), rfl⟩)
def lb_FP_nearRivals_28 (c1 : Nat) (a3 : Int) (S : St) (go : Int × Int → Option (Int)) (a2 : Int) (a4 : Int) : Option (Int) := if (g S c1 7) ≤ a4 then (some a2) else (if 0 ≤ a3 ∧ a3 < 40 then (if (g S (tgt c1 6) a3.toNat) = 0 then (nm (wr (a4 + 1)) fun v3 => go (a2, v3)) else (if 0 ≤ a4 ∧ a4 < 40 then (if (g S (tgt c1 6) a4.toNat) = 0 then (nm (wr (a4 + 1)) fun v5 => go (a2, v5)) else (bnO (fn_Ads_areRivals c1 a3 a4 S) fun p6 => if p6 = true then (nm (wr (((g S (tgt c1 6) a3.toNat).tdiv 2) - ((g S (tgt c1 6) a4.toNat).tdiv 2))) fun v9 => nm (wr (i_abs v9)) fun v10 => if v10 = 1 then (nm (wr (a2 + 1)) fun v12 => nm (wr (a4 + 1)) fun v13 => go (v12, v13)) else (nm (wr (a4 + 1)) fun v11 => go (a2, v11))) else (nm (wr (a4 + 1)) fun v8 => go (a2, v8)))) else none)) else none)
def lo_FP_nearRivals_28 (c1 : Nat) (a3 : Int) (S : St) : Nat → Int × Int → Option (Int) := lp fun go p => lb_FP_nearRivals_28 c1 a3 S go p.1 p.2
theorem tl_FP_nearRivals_28 {E : EV} {X : XT} {c1 : Nat} (hc1 : HC X 0 c1) {a3 : Int} (ha3 : inR a3) {S : St} {K : RK → PS → Prop} {q : Int} (hx : inR q → Go E M_FP_nearRivals 0 0 100 [(1, .ref c1), (2, V q), (3, V a3)] [] (WX X S) 0 0 K) : ∀ n a, lo_FP_nearRivals_28 c1 a3 S n a = some q → inR a.1 → inR a.2 → Go E M_FP_nearRivals 0 0 28 [(1, .ref c1), (2, V a.1), (3, V a3), (4, V a.2)] [] (WX X S) 0 0 K := by
  refine lp_ind (P := fun a : Int × Int => inR a.1 → inR a.2 → Go E M_FP_nearRivals 0 0 28 [(1, .ref c1), (2, V a.1), (3, V a3), (4, V a.2)] [] (WX X S) 0 0 K) (fun go ih a h => ?_)
  obtain ⟨a2, a4⟩ := a
  intro ha2 ha4
  show Go E M_FP_nearRivals 0 0 28 [(1, .ref c1), (2, V a2), (3, V a3), (4, V a4)] [] (WX X S) 0 0 K
  replace h : lb_FP_nearRivals_28 c1 a3 S go a2 a4 = some q := h
  unfold lb_FP_nearRivals_28 at h
  refine g_iload (pc := 28) (j := 3) (dK D_FP_nearRivals_0 17 rfl) rfl ?_
  refine g_aloadn (pc := 30) (i0 := 1) (j := 0) (dK D_FP_nearRivals_0 18 rfl) rfl rfl ?_
  refine vg_getI (pc := 31) (ci := 0) (f := 7) (dK D_FP_nearRivals_0 19 rfl) q_109 hc1 (ltK rfl) (ltK rfl) rfl ?_
  refine vg_icmp_ge (pc := 34) (t := 100) (dK D_FP_nearRivals_0 20 rfl) rfl ha4 (g_in _ _ _) (fun hc17 => ?_) (fun hc17 => ?_)
  · replace h := ifP h hc17
    obtain rfl := Option.some.inj h
    refine gL_weak (ls' := [(1, .ref c1), (2, V a2), (3, V a3)]) (sbc 0 rfl (sbc 1 rfl (sbc 2 rfl sbn))) ?_
    exact hx ha2
  · replace h := ifN h hc17
    refine g_aloadn (pc := 37) (i0 := 1) (j := 0) (dK D_FP_nearRivals_0 21 rfl) rfl rfl ?_
    refine vg_getA (pc := 38) (ci := 0) (f := 6) (dK D_FP_nearRivals_0 22 rfl) q_103 hc1 (ltK rfl) (ltK rfl) rfl ?_
    refine g_iloadn (pc := 41) (i0 := 3) (j := 2) (dK D_FP_nearRivals_0 23 rfl) rfl rfl ?_
    refine gdE h (fun hi2 h => ?_)
    refine vg_iaload (pc := 42) (j := a3.toNat) (dK D_FP_nearRivals_0 24 rfl) (hw_0_6 hc1) rfl hi2 rfl ?_
    refine vg_if_eq (pc := 43) (t := 94) (dK D_FP_nearRivals_0 25 rfl) rfl (g_in _ _ _) (fun hc16 => ?_) (fun hc16 => ?_)
    · replace h := ifP h hc16
      refine nmE h (fun v3 e_v3 h => ?_)
      refine vg_iinc (pc := 94) (j := 3) (a := a4) (z := 1) (ls2 := [(4, V v3), (1, .ref c1), (2, V a2), (3, V a3)]) (dK D_FP_nearRivals_1 3 rfl) rfl e_v3 (ltK rfl) rfl ?_
      refine g_goto (pc := 97) (tgt := 28) (dK D_FP_nearRivals_1 4 rfl) rfl ?_
      refine gL_weak (ls' := [(1, .ref c1), (2, V a2), (3, V a3), (4, V v3)]) (sbc 1 rfl (sbc 2 rfl (sbc 3 rfl (sbc 0 rfl sbn)))) ?_
      replace h := ih _ h
      exact h ha2 (Vn_in e_v3)
    · replace h := ifN h hc16
      refine g_aloadn (pc := 46) (i0 := 1) (j := 0) (dK D_FP_nearRivals_0 26 rfl) rfl rfl ?_
      refine vg_getA (pc := 47) (ci := 0) (f := 6) (dK D_FP_nearRivals_0 27 rfl) q_103 hc1 (ltK rfl) (ltK rfl) rfl ?_
      refine g_iload (pc := 50) (j := 3) (dK D_FP_nearRivals_0 28 rfl) rfl ?_
      refine gdE h (fun hi4 h => ?_)
      refine vg_iaload (pc := 52) (j := a4.toNat) (dK D_FP_nearRivals_0 29 rfl) (hw_0_6 hc1) rfl hi4 rfl ?_
      refine vg_if_eq (pc := 53) (t := 94) (dK D_FP_nearRivals_0 30 rfl) rfl (g_in _ _ _) (fun hc15 => ?_) (fun hc15 => ?_)
      · replace h := ifP h hc15
        refine nmE h (fun v5 e_v5 h => ?_)
        refine vg_iinc (pc := 94) (j := 3) (a := a4) (z := 1) (ls2 := [(4, V v5), (1, .ref c1), (2, V a2), (3, V a3)]) (dK D_FP_nearRivals_1 3 rfl) rfl e_v5 (ltK rfl) rfl ?_
        refine g_goto (pc := 97) (tgt := 28) (dK D_FP_nearRivals_1 4 rfl) rfl ?_
        refine gL_weak (ls' := [(1, .ref c1), (2, V a2), (3, V a3), (4, V v5)]) (sbc 1 rfl (sbc 2 rfl (sbc 3 rfl (sbc 0 rfl sbn)))) ?_
        replace h := ih _ h
        exact h ha2 (Vn_in e_v5)
      · replace h := ifN h hc15
        refine g_aloadn (pc := 56) (i0 := 1) (j := 0) (dK D_FP_nearRivals_0 31 rfl) rfl rfl ?_
        refine g_iloadn (pc := 57) (i0 := 3) (j := 2) (dK D_FP_nearRivals_0 32 rfl) rfl rfl ?_
        refine g_iload (pc := 58) (j := 3) (dK D_FP_nearRivals_0 33 rfl) rfl ?_
        refine bnE h (fun p6 e_p6 h => ?_)
        refine vg_cV (pc := 60) (As := [V a3, V a4]) (rest := []) (mc' := 0) (ms' := 0) (dK D_FP_nearRivals_0 34 rfl) K_FP_320 (fitK rfl) (ltK rfl) hc1 rfl (leK rfl) (leK rfl) (leK rfl) (tf_Ads_areRivals hc1 ha3 ha4 e_p6) (kcB ?_)
        refine vg_ifB_eq (pc := 63) (b := p6) (t := 94) (dK D_FP_nearRivals_0 35 rfl) rfl (fun hc7 => ?_) (fun hc7 => ?_)
        · replace h := ifP h hc7
          refine g_aloadn (pc := 66) (i0 := 1) (j := 0) (dK D_FP_nearRivals_0 36 rfl) rfl rfl ?_
          refine vg_getA (pc := 67) (ci := 0) (f := 6) (dK D_FP_nearRivals_0 37 rfl) q_103 hc1 (ltK rfl) (ltK rfl) rfl ?_
          refine g_iloadn (pc := 70) (i0 := 3) (j := 2) (dK D_FP_nearRivals_0 38 rfl) rfl rfl ?_
          refine vg_iaload (pc := 71) (j := a3.toNat) (dK D_FP_nearRivals_0 39 rfl) (hw_0_6 hc1) rfl hi2 rfl ?_
          refine vg_iconst (pc := 72) (dK D_FP_nearRivals_0 40 rfl) ?_
          refine vg_idiv (pc := 73) (dK D_FP_nearRivals_0 41 rfl) (g_in _ _ _) (inRk rfl) (by decide) ?_
          refine g_aloadn (pc := 74) (i0 := 1) (j := 0) (dK D_FP_nearRivals_0 42 rfl) rfl rfl ?_
          refine vg_getA (pc := 75) (ci := 0) (f := 6) (dK D_FP_nearRivals_0 43 rfl) q_103 hc1 (ltK rfl) (ltK rfl) rfl ?_
          refine g_iload (pc := 78) (j := 3) (dK D_FP_nearRivals_0 44 rfl) rfl ?_
          refine vg_iaload (pc := 80) (j := a4.toNat) (dK D_FP_nearRivals_0 45 rfl) (hw_0_6 hc1) rfl hi4 rfl ?_
          refine vg_iconst (pc := 81) (dK D_FP_nearRivals_0 46 rfl) ?_
          refine vg_idiv (pc := 82) (dK D_FP_nearRivals_0 47 rfl) (g_in _ _ _) (inRk rfl) (by decide) ?_
          refine vg_isub (pc := 83) (dK D_FP_nearRivals_0 48 rfl) ?_
          refine nmE h (fun v9 e_v9 h => ?_)
          refine gtop e_v9 ?_
          refine vg_mabs (pc := 84) (dK D_FP_nearRivals_0 49 rfl) q_877 (leK rfl) (leK rfl) (leK rfl) (leK rfl) (Vn_in e_v9) ?_
          refine vg_iconst (pc := 87) (dK D_FP_nearRivals_1 0 rfl) ?_
          refine nmE h (fun v10 e_v10 h => ?_)
          refine gsk (st' := [V 1, V v10]) (by rw [Vn e_v10]) ?_
          refine vg_icmp_ne (pc := 88) (t := 94) (dK D_FP_nearRivals_1 1 rfl) rfl (Vn_in e_v10) (inRk rfl) (fun hc14 => ?_) (fun hc14 => ?_)
          · replace h := ifN h hc14
            refine nmE h (fun v11 e_v11 h => ?_)
            refine vg_iinc (pc := 94) (j := 3) (a := a4) (z := 1) (ls2 := [(4, V v11), (1, .ref c1), (2, V a2), (3, V a3)]) (dK D_FP_nearRivals_1 3 rfl) rfl e_v11 (ltK rfl) rfl ?_
            refine g_goto (pc := 97) (tgt := 28) (dK D_FP_nearRivals_1 4 rfl) rfl ?_
            refine gL_weak (ls' := [(1, .ref c1), (2, V a2), (3, V a3), (4, V v11)]) (sbc 1 rfl (sbc 2 rfl (sbc 3 rfl (sbc 0 rfl sbn)))) ?_
            replace h := ih _ h
            exact h ha2 (Vn_in e_v11)
          · replace h := ifP h hc14
            refine nmE h (fun v12 e_v12 h => ?_)
            refine vg_iinc (pc := 91) (j := 1) (a := a2) (z := 1) (ls2 := [(2, V v12), (1, .ref c1), (3, V a3), (4, V a4)]) (dK D_FP_nearRivals_1 2 rfl) rfl e_v12 (ltK rfl) rfl ?_
            refine nmE h (fun v13 e_v13 h => ?_)
            refine vg_iinc (pc := 94) (j := 3) (a := a4) (z := 1) (ls2 := [(4, V v13), (2, V v12), (1, .ref c1), (3, V a3)]) (dK D_FP_nearRivals_1 3 rfl) rfl e_v13 (ltK rfl) rfl ?_
            refine g_goto (pc := 97) (tgt := 28) (dK D_FP_nearRivals_1 4 rfl) rfl ?_
            refine gL_weak (ls' := [(1, .ref c1), (2, V v12), (3, V a3), (4, V v13)]) (sbc 2 rfl (sbc 1 rfl (sbc 3 rfl (sbc 0 rfl sbn)))) ?_
            replace h := ih _ h
            exact h (Vn_in e_v12) (Vn_in e_v13)
        · replace h := ifN h hc7
          refine nmE h (fun v8 e_v8 h => ?_)
          refine vg_iinc (pc := 94) (j := 3) (a := a4) (z := 1) (ls2 := [(4, V v8), (1, .ref c1), (2, V a2), (3, V a3)]) (dK D_FP_nearRivals_1 3 rfl) rfl e_v8 (ltK rfl) rfl ?_
          refine g_goto (pc := 97) (tgt := 28) (dK D_FP_nearRivals_1 4 rfl) rfl ?_
          refine gL_weak (ls' := [(1, .ref c1), (2, V a2), (3, V a3), (4, V v8)]) (sbc 1 rfl (sbc 2 rfl (sbc 3 rfl (sbc 0 rfl sbn)))) ?_
          replace h := ih _ h
          exact h ha2 (Vn_in e_v8)
def lb_FP_nearRivals_15 (c1 : Nat) (S : St) (go : Int × Int → Option (Int)) (a2 : Int) (a3 : Int) : Option (Int) := if (g S c1 7) ≤ a3 then (some a2) else (nm (wr (a3 + 1)) fun v1 => bnO (lo_FP_nearRivals_28 c1 a3 S FU (a2, v1)) fun p18 => nm (wr (a3 + 1)) fun v19 => go (p18, v19))
def lo_FP_nearRivals_15 (c1 : Nat) (S : St) : Nat → Int × Int → Option (Int) := lp fun go p => lb_FP_nearRivals_15 c1 S go p.1 p.2
theorem tl_FP_nearRivals_15 {E : EV} {X : XT} {c1 : Nat} (hc1 : HC X 0 c1) {S : St} {K : RK → PS → Prop} {q : Int} (hx : inR q → Go E M_FP_nearRivals 0 0 106 [(2, V q)] [] (WX X S) 0 0 K) : ∀ n a, lo_FP_nearRivals_15 c1 S n a = some q → inR a.1 → inR a.2 → Go E M_FP_nearRivals 0 0 15 [(1, .ref c1), (2, V a.1), (3, V a.2)] [] (WX X S) 0 0 K := by
  refine lp_ind (P := fun a : Int × Int => inR a.1 → inR a.2 → Go E M_FP_nearRivals 0 0 15 [(1, .ref c1), (2, V a.1), (3, V a.2)] [] (WX X S) 0 0 K) (fun go ih a h => ?_)
  obtain ⟨a2, a3⟩ := a
  intro ha2 ha3
  show Go E M_FP_nearRivals 0 0 15 [(1, .ref c1), (2, V a2), (3, V a3)] [] (WX X S) 0 0 K
  replace h : lb_FP_nearRivals_15 c1 S go a2 a3 = some q := h
  unfold lb_FP_nearRivals_15 at h
  refine g_iloadn (pc := 15) (i0 := 3) (j := 2) (dK D_FP_nearRivals_0 9 rfl) rfl rfl ?_
  refine g_aloadn (pc := 16) (i0 := 1) (j := 0) (dK D_FP_nearRivals_0 10 rfl) rfl rfl ?_
  refine vg_getI (pc := 17) (ci := 0) (f := 7) (dK D_FP_nearRivals_0 11 rfl) q_109 hc1 (ltK rfl) (ltK rfl) rfl ?_
  refine vg_icmp_ge (pc := 20) (t := 106) (dK D_FP_nearRivals_0 12 rfl) rfl ha3 (g_in _ _ _) (fun hc20 => ?_) (fun hc20 => ?_)
  · replace h := ifP h hc20
    obtain rfl := Option.some.inj h
    refine gL_weak (ls' := [(2, V a2)]) (sbc 1 rfl sbn) ?_
    exact hx ha2
  · replace h := ifN h hc20
    refine g_iloadn (pc := 23) (i0 := 3) (j := 2) (dK D_FP_nearRivals_0 13 rfl) rfl rfl ?_
    refine vg_iconst (pc := 24) (dK D_FP_nearRivals_0 14 rfl) ?_
    refine vg_iadd (pc := 25) (dK D_FP_nearRivals_0 15 rfl) ?_
    refine nmE h (fun v1 e_v1 h => ?_)
    refine gtop e_v1 ?_
    refine g_istore (pc := 26) (ls2 := [(4, V v1), (1, .ref c1), (2, V a2), (3, V a3)]) (dK D_FP_nearRivals_0 16 rfl) (ltK rfl) rfl ?_
    refine bnE h (fun p18 e_p18 h => ?_)
    refine gL_weak (ls' := [(1, .ref c1), (2, V a2), (3, V a3), (4, V v1)]) (sbc 1 rfl (sbc 2 rfl (sbc 3 rfl (sbc 0 rfl sbn)))) ?_
    refine tl_FP_nearRivals_28 hc1 ha3 (fun hx2_p18 => ?_) FU (a2, v1) e_p18 ha2 (Vn_in e_v1)
    refine nmE h (fun v19 e_v19 h => ?_)
    refine vg_iinc (pc := 100) (j := 2) (a := a3) (z := 1) (ls2 := [(3, V v19), (1, .ref c1), (2, V p18)]) (dK D_FP_nearRivals_1 5 rfl) rfl e_v19 (ltK rfl) rfl ?_
    refine g_goto (pc := 103) (tgt := 15) (dK D_FP_nearRivals_1 6 rfl) rfl ?_
    refine gL_weak (ls' := [(1, .ref c1), (2, V p18), (3, V v19)]) (sbc 1 rfl (sbc 2 rfl (sbc 0 rfl sbn))) ?_
    replace h := ih _ h
    exact h hx2_p18 (Vn_in e_v19)
def fn_FP_nearRivals (c0 : Nat) (S : St) : Option (Int) := bnO (lo_FP_nearRivals_15 (tgt (tgt (tgt c0 3) 0) 0) S FU (0, 0)) fun p21 => some p21
theorem tf_FP_nearRivals {E : EV} {X : XT} {c0 : Nat} (hc0 : HC X 10 c0) {S : St} {q : Int} (h : fn_FP_nearRivals c0 S = some q) : Ev E M_FP_nearRivals [.ref c0] (WX X S) 0 0 (KI X q S) := by
  refine Ev.of pn_FP rfl (leK rfl) ?_
  show Go E M_FP_nearRivals 0 0 0 [(0, .ref c0)] [] (WX X S) 0 0 (KI X q S)
  unfold fn_FP_nearRivals at h
  refine g_aloadn (pc := 0) (i0 := 0) (j := 0) (dK D_FP_nearRivals_0 0 rfl) rfl rfl ?_
  refine vg_getO (pc := 1) (ci := 10) (f := 3) (dK D_FP_nearRivals_0 1 rfl) q_425 hc0 (ltK rfl) (ltK rfl) rfl ?_
  refine vg_getO (pc := 4) (ci := 4) (f := 0) (dK D_FP_nearRivals_0 2 rfl) q_292 (hw_10_3 hc0) (ltK rfl) (ltK rfl) rfl ?_
  refine vg_getO (pc := 7) (ci := 8) (f := 0) (dK D_FP_nearRivals_0 3 rfl) q_224 (hw_4_0 (hw_10_3 hc0)) (ltK rfl) (ltK rfl) rfl ?_
  refine g_astoren (pc := 10) (i0 := 1) (ls2 := [(1, .ref (tgt (tgt (tgt c0 3) 0) 0)), (0, .ref c0)]) (dK D_FP_nearRivals_0 4 rfl) rfl (ltK rfl) rfl ?_
  refine vg_iconst (pc := 11) (dK D_FP_nearRivals_0 5 rfl) ?_
  refine g_istoren (pc := 12) (i0 := 2) (ls2 := [(2, V 0), (1, .ref (tgt (tgt (tgt c0 3) 0) 0)), (0, .ref c0)]) (dK D_FP_nearRivals_0 6 rfl) rfl (ltK rfl) rfl ?_
  refine vg_iconst (pc := 13) (dK D_FP_nearRivals_0 7 rfl) ?_
  refine g_istoren (pc := 14) (i0 := 3) (ls2 := [(3, V 0), (2, V 0), (1, .ref (tgt (tgt (tgt c0 3) 0) 0)), (0, .ref c0)]) (dK D_FP_nearRivals_0 8 rfl) rfl (ltK rfl) rfl ?_
  refine bnE h (fun p21 e_p21 h => ?_)
  refine gL_weak (ls' := [(1, .ref (tgt (tgt (tgt c0 3) 0) 0)), (2, V 0), (3, V 0)]) (sbc 2 rfl (sbc 1 rfl (sbc 0 rfl sbn))) ?_
  refine tl_FP_nearRivals_15 (hw_8_0 (hw_4_0 (hw_10_3 hc0))) (fun hx2_p21 => ?_) FU (0, 0) e_p21 (inRk rfl) (inRk rfl)
  refine g_iloadn (pc := 106) (i0 := 2) (j := 0) (dK D_FP_nearRivals_1 7 rfl) rfl rfl ?_
  exact vg_iretI (pc := 107) (r := p21) (dK D_FP_nearRivals_1 8 rfl) rfl (leK rfl) (leK rfl) (fun _ => rfl) (by obtain rfl := Option.some.inj h; exact ⟨rfl, hx2_p21, rfl⟩)
def lb_FP_revenue_15 (c1 : Nat) (S : St) (go : Int × Int → Option (Int)) (a2 : Int) (a3 : Int) : Option (Int) := if (g S c1 7) ≤ a3 then (some a2) else (if 0 ≤ a3 ∧ a3 < 40 then (if (g S (tgt c1 6) a3.toNat) = 0 then (nm (wr (a3 + 1)) fun v2 => go (a2, v2)) else (nm (wr (a2 + (g S (tgt c1 4) a3.toNat))) fun v3 => nm (wr (a3 + 1)) fun v4 => go (v3, v4))) else none)
def lo_FP_revenue_15 (c1 : Nat) (S : St) : Nat → Int × Int → Option (Int) := lp fun go p => lb_FP_revenue_15 c1 S go p.1 p.2
theorem tl_FP_revenue_15 {E : EV} {X : XT} {c1 : Nat} (hc1 : HC X 0 c1) {S : St} {K : RK → PS → Prop} {q : Int} (hx : inR q → Go E M_FP_revenue 0 0 47 [(2, V q)] [] (WX X S) 0 0 K) : ∀ n a, lo_FP_revenue_15 c1 S n a = some q → inR a.1 → inR a.2 → Go E M_FP_revenue 0 0 15 [(1, .ref c1), (2, V a.1), (3, V a.2)] [] (WX X S) 0 0 K := by
  refine lp_ind (P := fun a : Int × Int => inR a.1 → inR a.2 → Go E M_FP_revenue 0 0 15 [(1, .ref c1), (2, V a.1), (3, V a.2)] [] (WX X S) 0 0 K) (fun go ih a h => ?_)
  obtain ⟨a2, a3⟩ := a
  intro ha2 ha3
  show Go E M_FP_revenue 0 0 15 [(1, .ref c1), (2, V a2), (3, V a3)] [] (WX X S) 0 0 K
  replace h : lb_FP_revenue_15 c1 S go a2 a3 = some q := h
  unfold lb_FP_revenue_15 at h
  refine g_iloadn (pc := 15) (i0 := 3) (j := 2) (dK D_FP_revenue 9 rfl) rfl rfl ?_
  refine g_aloadn (pc := 16) (i0 := 1) (j := 0) (dK D_FP_revenue 10 rfl) rfl rfl ?_
  refine vg_getI (pc := 17) (ci := 0) (f := 7) (dK D_FP_revenue 11 rfl) q_109 hc1 (ltK rfl) (ltK rfl) rfl ?_
  refine vg_icmp_ge (pc := 20) (t := 47) (dK D_FP_revenue 12 rfl) rfl ha3 (g_in _ _ _) (fun hc6 => ?_) (fun hc6 => ?_)
  · replace h := ifP h hc6
    obtain rfl := Option.some.inj h
    refine gL_weak (ls' := [(2, V a2)]) (sbc 1 rfl sbn) ?_
    exact hx ha2
  · replace h := ifN h hc6
    refine g_aloadn (pc := 23) (i0 := 1) (j := 0) (dK D_FP_revenue 13 rfl) rfl rfl ?_
    refine vg_getA (pc := 24) (ci := 0) (f := 6) (dK D_FP_revenue 14 rfl) q_103 hc1 (ltK rfl) (ltK rfl) rfl ?_
    refine g_iloadn (pc := 27) (i0 := 3) (j := 2) (dK D_FP_revenue 15 rfl) rfl rfl ?_
    refine gdE h (fun hi1 h => ?_)
    refine vg_iaload (pc := 28) (j := a3.toNat) (dK D_FP_revenue 16 rfl) (hw_0_6 hc1) rfl hi1 rfl ?_
    refine vg_if_eq (pc := 29) (t := 41) (dK D_FP_revenue 17 rfl) rfl (g_in _ _ _) (fun hc5 => ?_) (fun hc5 => ?_)
    · replace h := ifP h hc5
      refine nmE h (fun v2 e_v2 h => ?_)
      refine vg_iinc (pc := 41) (j := 2) (a := a3) (z := 1) (ls2 := [(3, V v2), (1, .ref c1), (2, V a2)]) (dK D_FP_revenue 25 rfl) rfl e_v2 (ltK rfl) rfl ?_
      refine g_goto (pc := 44) (tgt := 15) (dK D_FP_revenue 26 rfl) rfl ?_
      refine gL_weak (ls' := [(1, .ref c1), (2, V a2), (3, V v2)]) (sbc 1 rfl (sbc 2 rfl (sbc 0 rfl sbn))) ?_
      replace h := ih _ h
      exact h ha2 (Vn_in e_v2)
    · replace h := ifN h hc5
      refine g_iloadn (pc := 32) (i0 := 2) (j := 1) (dK D_FP_revenue 18 rfl) rfl rfl ?_
      refine g_aloadn (pc := 33) (i0 := 1) (j := 0) (dK D_FP_revenue 19 rfl) rfl rfl ?_
      refine vg_getA (pc := 34) (ci := 0) (f := 4) (dK D_FP_revenue 20 rfl) q_94 hc1 (ltK rfl) (ltK rfl) rfl ?_
      refine g_iloadn (pc := 37) (i0 := 3) (j := 2) (dK D_FP_revenue 21 rfl) rfl rfl ?_
      refine vg_iaload (pc := 38) (j := a3.toNat) (dK D_FP_revenue 22 rfl) (hw_0_4 hc1) rfl hi1 rfl ?_
      refine vg_iadd (pc := 39) (dK D_FP_revenue 23 rfl) ?_
      refine nmE h (fun v3 e_v3 h => ?_)
      refine gtop e_v3 ?_
      refine g_istoren (pc := 40) (i0 := 2) (ls2 := [(2, V v3), (1, .ref c1), (3, V a3)]) (dK D_FP_revenue 24 rfl) rfl (ltK rfl) rfl ?_
      refine nmE h (fun v4 e_v4 h => ?_)
      refine vg_iinc (pc := 41) (j := 2) (a := a3) (z := 1) (ls2 := [(3, V v4), (2, V v3), (1, .ref c1)]) (dK D_FP_revenue 25 rfl) rfl e_v4 (ltK rfl) rfl ?_
      refine g_goto (pc := 44) (tgt := 15) (dK D_FP_revenue 26 rfl) rfl ?_
      refine gL_weak (ls' := [(1, .ref c1), (2, V v3), (3, V v4)]) (sbc 2 rfl (sbc 1 rfl (sbc 0 rfl sbn))) ?_
      replace h := ih _ h
      exact h (Vn_in e_v3) (Vn_in e_v4)
def fn_FP_revenue (c0 : Nat) (S : St) : Option (Int) := bnO (lo_FP_revenue_15 (tgt (tgt (tgt c0 3) 0) 0) S FU (0, 0)) fun p7 => some p7
theorem tf_FP_revenue {E : EV} {X : XT} {c0 : Nat} (hc0 : HC X 10 c0) {S : St} {q : Int} (h : fn_FP_revenue c0 S = some q) : Ev E M_FP_revenue [.ref c0] (WX X S) 0 0 (KI X q S) := by
  refine Ev.of pn_FP rfl (leK rfl) ?_
  show Go E M_FP_revenue 0 0 0 [(0, .ref c0)] [] (WX X S) 0 0 (KI X q S)
  unfold fn_FP_revenue at h
  refine g_aloadn (pc := 0) (i0 := 0) (j := 0) (dK D_FP_revenue 0 rfl) rfl rfl ?_
  refine vg_getO (pc := 1) (ci := 10) (f := 3) (dK D_FP_revenue 1 rfl) q_425 hc0 (ltK rfl) (ltK rfl) rfl ?_
  refine vg_getO (pc := 4) (ci := 4) (f := 0) (dK D_FP_revenue 2 rfl) q_292 (hw_10_3 hc0) (ltK rfl) (ltK rfl) rfl ?_
  refine vg_getO (pc := 7) (ci := 8) (f := 0) (dK D_FP_revenue 3 rfl) q_224 (hw_4_0 (hw_10_3 hc0)) (ltK rfl) (ltK rfl) rfl ?_
  refine g_astoren (pc := 10) (i0 := 1) (ls2 := [(1, .ref (tgt (tgt (tgt c0 3) 0) 0)), (0, .ref c0)]) (dK D_FP_revenue 4 rfl) rfl (ltK rfl) rfl ?_
  refine vg_iconst (pc := 11) (dK D_FP_revenue 5 rfl) ?_
  refine g_istoren (pc := 12) (i0 := 2) (ls2 := [(2, V 0), (1, .ref (tgt (tgt (tgt c0 3) 0) 0)), (0, .ref c0)]) (dK D_FP_revenue 6 rfl) rfl (ltK rfl) rfl ?_
  refine vg_iconst (pc := 13) (dK D_FP_revenue 7 rfl) ?_
  refine g_istoren (pc := 14) (i0 := 3) (ls2 := [(3, V 0), (2, V 0), (1, .ref (tgt (tgt (tgt c0 3) 0) 0)), (0, .ref c0)]) (dK D_FP_revenue 8 rfl) rfl (ltK rfl) rfl ?_
  refine bnE h (fun p7 e_p7 h => ?_)
  refine gL_weak (ls' := [(1, .ref (tgt (tgt (tgt c0 3) 0) 0)), (2, V 0), (3, V 0)]) (sbc 2 rfl (sbc 1 rfl (sbc 0 rfl sbn))) ?_
  refine tl_FP_revenue_15 (hw_8_0 (hw_4_0 (hw_10_3 hc0))) (fun hx2_p7 => ?_) FU (0, 0) e_p7 (inRk rfl) (inRk rfl)
  refine g_iloadn (pc := 47) (i0 := 2) (j := 0) (dK D_FP_revenue 27 rfl) rfl rfl ?_
  exact vg_iretI (pc := 48) (r := p7) (dK D_FP_revenue 28 rfl) rfl (leK rfl) (leK rfl) (fun _ => rfl) (by obtain rfl := Option.some.inj h; exact ⟨rfl, hx2_p7, rfl⟩)
def fn_FP_lost (c0 : Nat) (S : St) : Option (Int) := some (g S (tgt (tgt c0 3) 0) 7)
theorem tf_FP_lost {E : EV} {X : XT} {c0 : Nat} (hc0 : HC X 10 c0) {S : St} {q : Int} (h : fn_FP_lost c0 S = some q) : Ev E M_FP_lost [.ref c0] (WX X S) 0 0 (KI X q S) := by
  refine Ev.of pn_FP rfl (leK rfl) ?_
  show Go E M_FP_lost 0 0 0 [(0, .ref c0)] [] (WX X S) 0 0 (KI X q S)
  unfold fn_FP_lost at h
  refine g_aloadn (pc := 0) (i0 := 0) (j := 0) (dK D_FP_lost 0 rfl) rfl rfl ?_
  refine vg_getO (pc := 1) (ci := 10) (f := 3) (dK D_FP_lost 1 rfl) q_425 hc0 (ltK rfl) (ltK rfl) rfl ?_
  refine vg_getO (pc := 4) (ci := 4) (f := 0) (dK D_FP_lost 2 rfl) q_292 (hw_10_3 hc0) (ltK rfl) (ltK rfl) rfl ?_
  refine vg_getI (pc := 7) (ci := 8) (f := 7) (dK D_FP_lost 3 rfl) q_250 (hw_4_0 (hw_10_3 hc0)) (ltK rfl) (ltK rfl) rfl ?_
  exact vg_iretI (pc := 10) (r := (g S (tgt (tgt c0 3) 0) 7)) (dK D_FP_lost 4 rfl) rfl (leK rfl) (leK rfl) (fun _ => rfl) (by obtain rfl := Option.some.inj h; exact ⟨rfl, (g_in _ _ _), rfl⟩)
def lb_FP_endangered_27 (c0 : Nat) (c1 : Nat) (c2 : Nat) (S : St) (go : Int × Int → Option (Int)) (a3 : Int) (a4 : Int) : Option (Int) := if (g S c1 7) ≤ a4 then (some a3) else (if 0 ≤ a4 ∧ a4 < 40 then (bnO (fn_Plan_formAt (tgt c0 3) (g S (tgt c1 6) a4.toNat) S) fun p2 => if p2 = (-1) then (nm (wr (a4 + 1)) fun v3 => go (a3, v3)) else (if 0 ≤ p2 ∧ p2 < 8 then (if (g S (tgt c2 1) p2.toNat) = 0 then (if (g S (tgt c2 2) p2.toNat) = 0 then (nm (wr (a4 + 1)) fun v6 => go (a3, v6)) else (if (g S (tgt c1 5) a4.toNat) ≤ (g S (tgt c2 2) p2.toNat) then (nm (wr (a4 + 1)) fun v7 => go (a3, v7)) else (nm (wr (a3 + (g S (tgt c1 4) a4.toNat))) fun v8 => nm (wr (a4 + 1)) fun v9 => go (v8, v9)))) else (nm (wr (a4 + 1)) fun v5 => go (a3, v5))) else none)) else none)
def lo_FP_endangered_27 (c0 : Nat) (c1 : Nat) (c2 : Nat) (S : St) : Nat → Int × Int → Option (Int) := lp fun go p => lb_FP_endangered_27 c0 c1 c2 S go p.1 p.2
theorem tl_FP_endangered_27 {E : EV} {X : XT} {c0 : Nat} (hc0 : HC X 10 c0) {c1 : Nat} (hc1 : HC X 0 c1) {c2 : Nat} (hc2 : HC X 2 c2) {S : St} {K : RK → PS → Prop} {q : Int} (hx : inR q → Go E M_FP_endangered 0 0 111 [(3, V q)] [] (WX X S) 0 0 K) : ∀ n a, lo_FP_endangered_27 c0 c1 c2 S n a = some q → inR a.1 → inR a.2 → Go E M_FP_endangered 0 0 27 [(0, .ref c0), (1, .ref c1), (2, .ref c2), (3, V a.1), (4, V a.2)] [] (WX X S) 0 0 K := by
  refine lp_ind (P := fun a : Int × Int => inR a.1 → inR a.2 → Go E M_FP_endangered 0 0 27 [(0, .ref c0), (1, .ref c1), (2, .ref c2), (3, V a.1), (4, V a.2)] [] (WX X S) 0 0 K) (fun go ih a h => ?_)
  obtain ⟨a3, a4⟩ := a
  intro ha3 ha4
  show Go E M_FP_endangered 0 0 27 [(0, .ref c0), (1, .ref c1), (2, .ref c2), (3, V a3), (4, V a4)] [] (WX X S) 0 0 K
  replace h : lb_FP_endangered_27 c0 c1 c2 S go a3 a4 = some q := h
  unfold lb_FP_endangered_27 at h
  refine g_iload (pc := 27) (j := 4) (dK D_FP_endangered_0 14 rfl) rfl ?_
  refine g_aloadn (pc := 29) (i0 := 1) (j := 1) (dK D_FP_endangered_0 15 rfl) rfl rfl ?_
  refine vg_getI (pc := 30) (ci := 0) (f := 7) (dK D_FP_endangered_0 16 rfl) q_109 hc1 (ltK rfl) (ltK rfl) rfl ?_
  refine vg_icmp_ge (pc := 33) (t := 111) (dK D_FP_endangered_0 17 rfl) rfl ha4 (g_in _ _ _) (fun hc14 => ?_) (fun hc14 => ?_)
  · replace h := ifP h hc14
    obtain rfl := Option.some.inj h
    refine gL_weak (ls' := [(3, V a3)]) (sbc 3 rfl sbn) ?_
    exact hx ha3
  · replace h := ifN h hc14
    refine g_aloadn (pc := 36) (i0 := 0) (j := 0) (dK D_FP_endangered_0 18 rfl) rfl rfl ?_
    refine vg_getO (pc := 37) (ci := 10) (f := 3) (dK D_FP_endangered_0 19 rfl) q_425 hc0 (ltK rfl) (ltK rfl) rfl ?_
    refine g_aloadn (pc := 40) (i0 := 1) (j := 1) (dK D_FP_endangered_0 20 rfl) rfl rfl ?_
    refine vg_getA (pc := 41) (ci := 0) (f := 6) (dK D_FP_endangered_0 21 rfl) q_103 hc1 (ltK rfl) (ltK rfl) rfl ?_
    refine g_iload (pc := 44) (j := 4) (dK D_FP_endangered_0 22 rfl) rfl ?_
    refine gdE h (fun hi1 h => ?_)
    refine vg_iaload (pc := 46) (j := a4.toNat) (dK D_FP_endangered_0 23 rfl) (hw_0_6 hc1) rfl hi1 rfl ?_
    refine bnE h (fun p2 e_p2 h => ?_)
    refine vg_cV (pc := 47) (As := [V (g S (tgt c1 6) a4.toNat)]) (rest := []) (mc' := 0) (ms' := 0) (dK D_FP_endangered_0 24 rfl) K_FP_337 (fitK rfl) (ltK rfl) (hw_10_3 hc0) rfl (leK rfl) (leK rfl) (leK rfl) (tf_Plan_formAt (hw_10_3 hc0) (g_in _ _ _) e_p2) (kcI (fun h_p2 => ?_))
    refine g_istore (pc := 50) (ls2 := [(5, V p2), (0, .ref c0), (1, .ref c1), (2, .ref c2), (3, V a3), (4, V a4)]) (dK D_FP_endangered_0 25 rfl) (ltK rfl) rfl ?_
    refine g_iload (pc := 52) (j := 0) (dK D_FP_endangered_0 26 rfl) rfl ?_
    refine vg_iconst (pc := 54) (dK D_FP_endangered_0 27 rfl) ?_
    refine vg_icmp_eq (pc := 55) (t := 105) (dK D_FP_endangered_0 28 rfl) rfl h_p2 (inRk rfl) (fun hc13 => ?_) (fun hc13 => ?_)
    · replace h := ifP h hc13
      refine nmE h (fun v3 e_v3 h => ?_)
      refine vg_iinc (pc := 105) (j := 5) (a := a4) (z := 1) (ls2 := [(4, V v3), (5, V p2), (0, .ref c0), (1, .ref c1), (2, .ref c2), (3, V a3)]) (dK D_FP_endangered_1 5 rfl) rfl e_v3 (ltK rfl) rfl ?_
      refine g_goto (pc := 108) (tgt := 27) (dK D_FP_endangered_1 6 rfl) rfl ?_
      refine gL_weak (ls' := [(0, .ref c0), (1, .ref c1), (2, .ref c2), (3, V a3), (4, V v3)]) (sbc 2 rfl (sbc 3 rfl (sbc 4 rfl (sbc 5 rfl (sbc 0 rfl sbn))))) ?_
      replace h := ih _ h
      exact h ha3 (Vn_in e_v3)
    · replace h := ifN h hc13
      refine g_aloadn (pc := 58) (i0 := 2) (j := 3) (dK D_FP_endangered_0 29 rfl) rfl rfl ?_
      refine vg_getA (pc := 59) (ci := 2) (f := 1) (dK D_FP_endangered_0 30 rfl) q_207 hc2 (ltK rfl) (ltK rfl) rfl ?_
      refine g_iload (pc := 62) (j := 0) (dK D_FP_endangered_0 31 rfl) rfl ?_
      refine gdE h (fun hi4 h => ?_)
      refine vg_iaload (pc := 64) (j := p2.toNat) (dK D_FP_endangered_0 32 rfl) (hw_2_1 hc2) rfl hi4 rfl ?_
      refine vg_if_ne (pc := 65) (t := 105) (dK D_FP_endangered_0 33 rfl) rfl (g_in _ _ _) (fun hc12 => ?_) (fun hc12 => ?_)
      · replace h := ifN h hc12
        refine nmE h (fun v5 e_v5 h => ?_)
        refine vg_iinc (pc := 105) (j := 5) (a := a4) (z := 1) (ls2 := [(4, V v5), (5, V p2), (0, .ref c0), (1, .ref c1), (2, .ref c2), (3, V a3)]) (dK D_FP_endangered_1 5 rfl) rfl e_v5 (ltK rfl) rfl ?_
        refine g_goto (pc := 108) (tgt := 27) (dK D_FP_endangered_1 6 rfl) rfl ?_
        refine gL_weak (ls' := [(0, .ref c0), (1, .ref c1), (2, .ref c2), (3, V a3), (4, V v5)]) (sbc 2 rfl (sbc 3 rfl (sbc 4 rfl (sbc 5 rfl (sbc 0 rfl sbn))))) ?_
        replace h := ih _ h
        exact h ha3 (Vn_in e_v5)
      · replace h := ifP h hc12
        refine g_aloadn (pc := 68) (i0 := 2) (j := 3) (dK D_FP_endangered_0 34 rfl) rfl rfl ?_
        refine vg_getA (pc := 69) (ci := 2) (f := 2) (dK D_FP_endangered_0 35 rfl) q_212 hc2 (ltK rfl) (ltK rfl) rfl ?_
        refine g_iload (pc := 72) (j := 0) (dK D_FP_endangered_0 36 rfl) rfl ?_
        refine vg_iaload (pc := 74) (j := p2.toNat) (dK D_FP_endangered_0 37 rfl) (hw_2_2 hc2) rfl hi4 rfl ?_
        refine vg_if_eq (pc := 75) (t := 105) (dK D_FP_endangered_0 38 rfl) rfl (g_in _ _ _) (fun hc11 => ?_) (fun hc11 => ?_)
        · replace h := ifP h hc11
          refine nmE h (fun v6 e_v6 h => ?_)
          refine vg_iinc (pc := 105) (j := 5) (a := a4) (z := 1) (ls2 := [(4, V v6), (5, V p2), (0, .ref c0), (1, .ref c1), (2, .ref c2), (3, V a3)]) (dK D_FP_endangered_1 5 rfl) rfl e_v6 (ltK rfl) rfl ?_
          refine g_goto (pc := 108) (tgt := 27) (dK D_FP_endangered_1 6 rfl) rfl ?_
          refine gL_weak (ls' := [(0, .ref c0), (1, .ref c1), (2, .ref c2), (3, V a3), (4, V v6)]) (sbc 2 rfl (sbc 3 rfl (sbc 4 rfl (sbc 5 rfl (sbc 0 rfl sbn))))) ?_
          replace h := ih _ h
          exact h ha3 (Vn_in e_v6)
        · replace h := ifN h hc11
          refine g_aloadn (pc := 78) (i0 := 2) (j := 3) (dK D_FP_endangered_0 39 rfl) rfl rfl ?_
          refine vg_getA (pc := 79) (ci := 2) (f := 2) (dK D_FP_endangered_0 40 rfl) q_212 hc2 (ltK rfl) (ltK rfl) rfl ?_
          refine g_iload (pc := 82) (j := 0) (dK D_FP_endangered_0 41 rfl) rfl ?_
          refine vg_iaload (pc := 84) (j := p2.toNat) (dK D_FP_endangered_0 42 rfl) (hw_2_2 hc2) rfl hi4 rfl ?_
          refine g_aloadn (pc := 85) (i0 := 1) (j := 2) (dK D_FP_endangered_0 43 rfl) rfl rfl ?_
          refine vg_getA (pc := 86) (ci := 0) (f := 5) (dK D_FP_endangered_0 44 rfl) q_97 hc1 (ltK rfl) (ltK rfl) rfl ?_
          refine g_iload (pc := 89) (j := 5) (dK D_FP_endangered_0 45 rfl) rfl ?_
          refine vg_iaload (pc := 91) (j := a4.toNat) (dK D_FP_endangered_0 46 rfl) (hw_0_5 hc1) rfl hi1 rfl ?_
          refine vg_icmp_ge (pc := 92) (t := 105) (dK D_FP_endangered_0 47 rfl) rfl (g_in _ _ _) (g_in _ _ _) (fun hc10 => ?_) (fun hc10 => ?_)
          · replace h := ifP h hc10
            refine nmE h (fun v7 e_v7 h => ?_)
            refine vg_iinc (pc := 105) (j := 5) (a := a4) (z := 1) (ls2 := [(4, V v7), (5, V p2), (0, .ref c0), (1, .ref c1), (2, .ref c2), (3, V a3)]) (dK D_FP_endangered_1 5 rfl) rfl e_v7 (ltK rfl) rfl ?_
            refine g_goto (pc := 108) (tgt := 27) (dK D_FP_endangered_1 6 rfl) rfl ?_
            refine gL_weak (ls' := [(0, .ref c0), (1, .ref c1), (2, .ref c2), (3, V a3), (4, V v7)]) (sbc 2 rfl (sbc 3 rfl (sbc 4 rfl (sbc 5 rfl (sbc 0 rfl sbn))))) ?_
            replace h := ih _ h
            exact h ha3 (Vn_in e_v7)
          · replace h := ifN h hc10
            refine g_iloadn (pc := 95) (i0 := 3) (j := 4) (dK D_FP_endangered_0 48 rfl) rfl rfl ?_
            refine g_aloadn (pc := 96) (i0 := 1) (j := 2) (dK D_FP_endangered_0 49 rfl) rfl rfl ?_
            refine vg_getA (pc := 97) (ci := 0) (f := 4) (dK D_FP_endangered_1 0 rfl) q_94 hc1 (ltK rfl) (ltK rfl) rfl ?_
            refine g_iload (pc := 100) (j := 5) (dK D_FP_endangered_1 1 rfl) rfl ?_
            refine vg_iaload (pc := 102) (j := a4.toNat) (dK D_FP_endangered_1 2 rfl) (hw_0_4 hc1) rfl hi1 rfl ?_
            refine vg_iadd (pc := 103) (dK D_FP_endangered_1 3 rfl) ?_
            refine nmE h (fun v8 e_v8 h => ?_)
            refine gtop e_v8 ?_
            refine g_istoren (pc := 104) (i0 := 3) (ls2 := [(3, V v8), (5, V p2), (0, .ref c0), (1, .ref c1), (2, .ref c2), (4, V a4)]) (dK D_FP_endangered_1 4 rfl) rfl (ltK rfl) rfl ?_
            refine nmE h (fun v9 e_v9 h => ?_)
            refine vg_iinc (pc := 105) (j := 5) (a := a4) (z := 1) (ls2 := [(4, V v9), (3, V v8), (5, V p2), (0, .ref c0), (1, .ref c1), (2, .ref c2)]) (dK D_FP_endangered_1 5 rfl) rfl e_v9 (ltK rfl) rfl ?_
            refine g_goto (pc := 108) (tgt := 27) (dK D_FP_endangered_1 6 rfl) rfl ?_
            refine gL_weak (ls' := [(0, .ref c0), (1, .ref c1), (2, .ref c2), (3, V v8), (4, V v9)]) (sbc 3 rfl (sbc 4 rfl (sbc 5 rfl (sbc 1 rfl (sbc 0 rfl sbn))))) ?_
            replace h := ih _ h
            exact h (Vn_in e_v8) (Vn_in e_v9)
def fn_FP_endangered (c0 : Nat) (S : St) : Option (Int) := bnO (lo_FP_endangered_27 c0 (tgt (tgt (tgt c0 3) 0) 0) (tgt (tgt (tgt c0 3) 0) 3) S FU (0, 0)) fun p15 => some p15
theorem tf_FP_endangered {E : EV} {X : XT} {c0 : Nat} (hc0 : HC X 10 c0) {S : St} {q : Int} (h : fn_FP_endangered c0 S = some q) : Ev E M_FP_endangered [.ref c0] (WX X S) 0 0 (KI X q S) := by
  refine Ev.of pn_FP rfl (leK rfl) ?_
  show Go E M_FP_endangered 0 0 0 [(0, .ref c0)] [] (WX X S) 0 0 (KI X q S)
  unfold fn_FP_endangered at h
  refine g_aloadn (pc := 0) (i0 := 0) (j := 0) (dK D_FP_endangered_0 0 rfl) rfl rfl ?_
  refine vg_getO (pc := 1) (ci := 10) (f := 3) (dK D_FP_endangered_0 1 rfl) q_425 hc0 (ltK rfl) (ltK rfl) rfl ?_
  refine vg_getO (pc := 4) (ci := 4) (f := 0) (dK D_FP_endangered_0 2 rfl) q_292 (hw_10_3 hc0) (ltK rfl) (ltK rfl) rfl ?_
  refine vg_getO (pc := 7) (ci := 8) (f := 0) (dK D_FP_endangered_0 3 rfl) q_224 (hw_4_0 (hw_10_3 hc0)) (ltK rfl) (ltK rfl) rfl ?_
  refine g_astoren (pc := 10) (i0 := 1) (ls2 := [(1, .ref (tgt (tgt (tgt c0 3) 0) 0)), (0, .ref c0)]) (dK D_FP_endangered_0 4 rfl) rfl (ltK rfl) rfl ?_
  refine g_aloadn (pc := 11) (i0 := 0) (j := 1) (dK D_FP_endangered_0 5 rfl) rfl rfl ?_
  refine vg_getO (pc := 12) (ci := 10) (f := 3) (dK D_FP_endangered_0 6 rfl) q_425 hc0 (ltK rfl) (ltK rfl) rfl ?_
  refine vg_getO (pc := 15) (ci := 4) (f := 0) (dK D_FP_endangered_0 7 rfl) q_292 (hw_10_3 hc0) (ltK rfl) (ltK rfl) rfl ?_
  refine vg_getO (pc := 18) (ci := 8) (f := 3) (dK D_FP_endangered_0 8 rfl) q_237 (hw_4_0 (hw_10_3 hc0)) (ltK rfl) (ltK rfl) rfl ?_
  refine g_astoren (pc := 21) (i0 := 2) (ls2 := [(2, .ref (tgt (tgt (tgt c0 3) 0) 3)), (1, .ref (tgt (tgt (tgt c0 3) 0) 0)), (0, .ref c0)]) (dK D_FP_endangered_0 9 rfl) rfl (ltK rfl) rfl ?_
  refine vg_iconst (pc := 22) (dK D_FP_endangered_0 10 rfl) ?_
  refine g_istoren (pc := 23) (i0 := 3) (ls2 := [(3, V 0), (2, .ref (tgt (tgt (tgt c0 3) 0) 3)), (1, .ref (tgt (tgt (tgt c0 3) 0) 0)), (0, .ref c0)]) (dK D_FP_endangered_0 11 rfl) rfl (ltK rfl) rfl ?_
  refine vg_iconst (pc := 24) (dK D_FP_endangered_0 12 rfl) ?_
  refine g_istore (pc := 25) (ls2 := [(4, V 0), (3, V 0), (2, .ref (tgt (tgt (tgt c0 3) 0) 3)), (1, .ref (tgt (tgt (tgt c0 3) 0) 0)), (0, .ref c0)]) (dK D_FP_endangered_0 13 rfl) (ltK rfl) rfl ?_
  refine bnE h (fun p15 e_p15 h => ?_)
  refine gL_weak (ls' := [(0, .ref c0), (1, .ref (tgt (tgt (tgt c0 3) 0) 0)), (2, .ref (tgt (tgt (tgt c0 3) 0) 3)), (3, V 0), (4, V 0)]) (sbc 4 rfl (sbc 3 rfl (sbc 2 rfl (sbc 1 rfl (sbc 0 rfl sbn))))) ?_
  refine tl_FP_endangered_27 hc0 (hw_8_0 (hw_4_0 (hw_10_3 hc0))) (hw_8_3 (hw_4_0 (hw_10_3 hc0))) (fun hx3_p15 => ?_) FU (0, 0) e_p15 (inRk rfl) (inRk rfl)
  refine g_iloadn (pc := 111) (i0 := 3) (j := 0) (dK D_FP_endangered_1 7 rfl) rfl rfl ?_
  exact vg_iretI (pc := 112) (r := p15) (dK D_FP_endangered_1 8 rfl) rfl (leK rfl) (leK rfl) (fun _ => rfl) (by obtain rfl := Option.some.inj h; exact ⟨rfl, hx3_p15, rfl⟩)
def lb_FP_fill_4 (c0 : Nat) (S : St) (go : Int × Int → Option (Int)) (a1 : Int) (a2 : Int) : Option (Int) := if (g S (tgt c0 3) 1) < a2 then (some a1) else (if 0 ≤ a2 ∧ a2 < 65 then (nm (wr (a1 + (g S (tgt (tgt c0 3) 5) a2.toNat))) fun v2 => nm (wr (a2 + 1)) fun v3 => go (v2, v3)) else none)
def lo_FP_fill_4 (c0 : Nat) (S : St) : Nat → Int × Int → Option (Int) := lp fun go p => lb_FP_fill_4 c0 S go p.1 p.2
theorem tl_FP_fill_4 {E : EV} {X : XT} {c0 : Nat} (hc0 : HC X 10 c0) {S : St} {K : RK → PS → Prop} {q : Int} (hx : inR q → Go E M_FP_fill 0 0 33 [(0, .ref c0), (1, V q)] [] (WX X S) 0 0 K) : ∀ n a, lo_FP_fill_4 c0 S n a = some q → inR a.1 → inR a.2 → Go E M_FP_fill 0 0 4 [(0, .ref c0), (1, V a.1), (2, V a.2)] [] (WX X S) 0 0 K := by
  refine lp_ind (P := fun a : Int × Int => inR a.1 → inR a.2 → Go E M_FP_fill 0 0 4 [(0, .ref c0), (1, V a.1), (2, V a.2)] [] (WX X S) 0 0 K) (fun go ih a h => ?_)
  obtain ⟨a1, a2⟩ := a
  intro ha1 ha2
  show Go E M_FP_fill 0 0 4 [(0, .ref c0), (1, V a1), (2, V a2)] [] (WX X S) 0 0 K
  replace h : lb_FP_fill_4 c0 S go a1 a2 = some q := h
  unfold lb_FP_fill_4 at h
  refine g_iloadn (pc := 4) (i0 := 2) (j := 2) (dK D_FP_fill 4 rfl) rfl rfl ?_
  refine g_aloadn (pc := 5) (i0 := 0) (j := 0) (dK D_FP_fill 5 rfl) rfl rfl ?_
  refine vg_getO (pc := 6) (ci := 10) (f := 3) (dK D_FP_fill 6 rfl) q_425 hc0 (ltK rfl) (ltK rfl) rfl ?_
  refine vg_getI (pc := 9) (ci := 4) (f := 1) (dK D_FP_fill 7 rfl) q_296 (hw_10_3 hc0) (ltK rfl) (ltK rfl) rfl ?_
  refine vg_icmp_gt (pc := 12) (t := 33) (dK D_FP_fill 8 rfl) rfl ha2 (g_in _ _ _) (fun hc4 => ?_) (fun hc4 => ?_)
  · replace h := ifP h hc4
    obtain rfl := Option.some.inj h
    refine gL_weak (ls' := [(0, .ref c0), (1, V a1)]) (sbc 0 rfl (sbc 1 rfl sbn)) ?_
    exact hx ha1
  · replace h := ifN h hc4
    refine g_iloadn (pc := 15) (i0 := 1) (j := 1) (dK D_FP_fill 9 rfl) rfl rfl ?_
    refine g_aloadn (pc := 16) (i0 := 0) (j := 0) (dK D_FP_fill 10 rfl) rfl rfl ?_
    refine vg_getO (pc := 17) (ci := 10) (f := 3) (dK D_FP_fill 11 rfl) q_425 hc0 (ltK rfl) (ltK rfl) rfl ?_
    refine vg_getA (pc := 20) (ci := 4) (f := 5) (dK D_FP_fill 12 rfl) q_308 (hw_10_3 hc0) (ltK rfl) (ltK rfl) rfl ?_
    refine g_iloadn (pc := 23) (i0 := 2) (j := 2) (dK D_FP_fill 13 rfl) rfl rfl ?_
    refine gdE h (fun hi1 h => ?_)
    refine vg_iaload (pc := 24) (j := a2.toNat) (dK D_FP_fill 14 rfl) (hw_4_5 (hw_10_3 hc0)) rfl hi1 rfl ?_
    refine vg_iadd (pc := 25) (dK D_FP_fill 15 rfl) ?_
    refine nmE h (fun v2 e_v2 h => ?_)
    refine gtop e_v2 ?_
    refine g_istoren (pc := 26) (i0 := 1) (ls2 := [(1, V v2), (0, .ref c0), (2, V a2)]) (dK D_FP_fill 16 rfl) rfl (ltK rfl) rfl ?_
    refine nmE h (fun v3 e_v3 h => ?_)
    refine vg_iinc (pc := 27) (j := 2) (a := a2) (z := 1) (ls2 := [(2, V v3), (1, V v2), (0, .ref c0)]) (dK D_FP_fill 17 rfl) rfl e_v3 (ltK rfl) rfl ?_
    refine g_goto (pc := 30) (tgt := 4) (dK D_FP_fill 18 rfl) rfl ?_
    refine gL_weak (ls' := [(0, .ref c0), (1, V v2), (2, V v3)]) (sbc 2 rfl (sbc 1 rfl (sbc 0 rfl sbn))) ?_
    replace h := ih _ h
    exact h (Vn_in e_v2) (Vn_in e_v3)
def fn_FP_fill (c0 : Nat) (S : St) : Option (UInt64) := bnO (lo_FP_fill_4 c0 S FU (0, 1)) fun p5 => nm (wr (4 * (g S (tgt c0 3) 1))) fun v6 => if v6 ≤ 0 then (some 0) else (if ((FP.ddiv (i_d (v6 - p5)) (i_d v6)) &&& 0x7fffffffffffffff) ≤ 0x7ff0000000000000 then (some (FP.ddiv (i_d (v6 - p5)) (i_d v6))) else none)
theorem tf_FP_fill {E : EV} {X : XT} {c0 : Nat} (hc0 : HC X 10 c0) {S : St} {q : UInt64} (h : fn_FP_fill c0 S = some q) : Ev E M_FP_fill [.ref c0] (WX X S) 0 0 (KD X q S) := by
  refine Ev.of pn_FP rfl (leK rfl) ?_
  show Go E M_FP_fill 0 0 0 [(0, .ref c0)] [] (WX X S) 0 0 (KD X q S)
  unfold fn_FP_fill at h
  refine vg_iconst (pc := 0) (dK D_FP_fill 0 rfl) ?_
  refine g_istoren (pc := 1) (i0 := 1) (ls2 := [(1, V 0), (0, .ref c0)]) (dK D_FP_fill 1 rfl) rfl (ltK rfl) rfl ?_
  refine vg_iconst (pc := 2) (dK D_FP_fill 2 rfl) ?_
  refine g_istoren (pc := 3) (i0 := 2) (ls2 := [(2, V 1), (1, V 0), (0, .ref c0)]) (dK D_FP_fill 3 rfl) rfl (ltK rfl) rfl ?_
  refine bnE h (fun p5 e_p5 h => ?_)
  refine gL_weak (ls' := [(0, .ref c0), (1, V 0), (2, V 1)]) (sbc 2 rfl (sbc 1 rfl (sbc 0 rfl sbn))) ?_
  refine tl_FP_fill_4 hc0 (fun hx1_p5 => ?_) FU (0, 1) e_p5 (inRk rfl) (inRk rfl)
  refine vg_iconst (pc := 33) (dK D_FP_fill 19 rfl) ?_
  refine g_aloadn (pc := 34) (i0 := 0) (j := 0) (dK D_FP_fill 20 rfl) rfl rfl ?_
  refine vg_getO (pc := 35) (ci := 10) (f := 3) (dK D_FP_fill 21 rfl) q_425 hc0 (ltK rfl) (ltK rfl) rfl ?_
  refine vg_getI (pc := 38) (ci := 4) (f := 1) (dK D_FP_fill 22 rfl) q_296 (hw_10_3 hc0) (ltK rfl) (ltK rfl) rfl ?_
  refine vg_imul (pc := 41) (dK D_FP_fill 23 rfl) ?_
  refine nmE h (fun v6 e_v6 h => ?_)
  refine gtop e_v6 ?_
  refine g_istoren (pc := 42) (i0 := 2) (ls2 := [(2, V v6), (0, .ref c0), (1, V p5)]) (dK D_FP_fill 24 rfl) rfl (ltK rfl) rfl ?_
  refine g_iloadn (pc := 43) (i0 := 2) (j := 0) (dK D_FP_fill 25 rfl) rfl rfl ?_
  refine vg_if_le (pc := 44) (t := 57) (dK D_FP_fill 26 rfl) rfl (Vn_in e_v6) (fun hc8 => ?_) (fun hc8 => ?_)
  · replace h := ifP h hc8
    refine g_dconst0 (pc := 57) (dK D_FP_fill 35 rfl) ?_
    exact g_dreturn (pc := 58) (dK D_FP_fill 36 rfl) rfl (leK rfl) (leK rfl) (fun _ => rfl) (by obtain rfl := Option.some.inj h; exact ⟨rfl, rfl⟩)
  · replace h := ifN h hc8
    refine g_iloadn (pc := 47) (i0 := 2) (j := 0) (dK D_FP_fill 27 rfl) rfl rfl ?_
    refine g_iloadn (pc := 48) (i0 := 1) (j := 2) (dK D_FP_fill 28 rfl) rfl rfl ?_
    refine vg_isub (pc := 49) (dK D_FP_fill 29 rfl) ?_
    refine vg_i2d (pc := 50) (dK D_FP_fill 30 rfl) ?_
    refine g_iloadn (pc := 51) (i0 := 2) (j := 0) (dK D_FP_fill 31 rfl) rfl rfl ?_
    refine vg_i2d (pc := 52) (dK D_FP_fill 32 rfl) ?_
    refine gdE h (fun hd7 h => ?_)
    refine g_ddiv (pc := 53) (dK D_FP_fill 33 rfl) hd7 ?_
    refine g_goto (pc := 54) (tgt := 58) (dK D_FP_fill 34 rfl) rfl ?_
    exact g_dreturn (pc := 58) (dK D_FP_fill 36 rfl) rfl (leK rfl) (leK rfl) (fun _ => rfl) (by obtain rfl := Option.some.inj h; exact ⟨rfl, rfl⟩)
def fn_FP_describedByte (c0 : Nat) (a1 : Int) (S : St) : Option (Int) := if a1 < 0 then (some (-1)) else (if (g S (tgt c0 5) 1) ≤ a1 then (some (-1)) else (bnO (fn_Bytes_byteAt (tgt c0 5) a1 S) fun p1 => some p1))
theorem tf_FP_describedByte {E : EV} {X : XT} {c0 : Nat} (hc0 : HC X 10 c0) {a1 : Int} (ha1 : inR a1) {S : St} {q : Int} (h : fn_FP_describedByte c0 a1 S = some q) : Ev E M_FP_describedByte [.ref c0, V a1] (WX X S) 0 0 (KI X q S) := by
  refine Ev.of pn_FP rfl (leK rfl) ?_
  show Go E M_FP_describedByte 0 0 0 [(0, .ref c0), (1, V a1)] [] (WX X S) 0 0 (KI X q S)
  unfold fn_FP_describedByte at h
  refine g_iloadn (pc := 0) (i0 := 1) (j := 1) (dK D_FP_describedByte 0 rfl) rfl rfl ?_
  refine vg_if_lt (pc := 1) (t := 26) (dK D_FP_describedByte 1 rfl) rfl ha1 (fun hc3 => ?_) (fun hc3 => ?_)
  · replace h := ifP h hc3
    refine vg_iconst (pc := 26) (dK D_FP_describedByte 12 rfl) ?_
    exact vg_iretI (pc := 27) (r := (-1)) (dK D_FP_describedByte 13 rfl) rfl (leK rfl) (leK rfl) (fun _ => rfl) (by obtain rfl := Option.some.inj h; exact ⟨rfl, (inRk rfl), rfl⟩)
  · replace h := ifN h hc3
    refine g_iloadn (pc := 4) (i0 := 1) (j := 1) (dK D_FP_describedByte 2 rfl) rfl rfl ?_
    refine g_aloadn (pc := 5) (i0 := 0) (j := 0) (dK D_FP_describedByte 3 rfl) rfl rfl ?_
    refine vg_getO (pc := 6) (ci := 10) (f := 5) (dK D_FP_describedByte 4 rfl) q_427 hc0 (ltK rfl) (ltK rfl) rfl ?_
    refine vg_getI (pc := 9) (ci := 1) (f := 1) (dK D_FP_describedByte 5 rfl) q_50 (hw_10_5 hc0) (ltK rfl) (ltK rfl) rfl ?_
    refine vg_icmp_ge (pc := 12) (t := 26) (dK D_FP_describedByte 6 rfl) rfl ha1 (g_in _ _ _) (fun hc2 => ?_) (fun hc2 => ?_)
    · replace h := ifP h hc2
      refine vg_iconst (pc := 26) (dK D_FP_describedByte 12 rfl) ?_
      exact vg_iretI (pc := 27) (r := (-1)) (dK D_FP_describedByte 13 rfl) rfl (leK rfl) (leK rfl) (fun _ => rfl) (by obtain rfl := Option.some.inj h; exact ⟨rfl, (inRk rfl), rfl⟩)
    · replace h := ifN h hc2
      refine g_aloadn (pc := 15) (i0 := 0) (j := 0) (dK D_FP_describedByte 7 rfl) rfl rfl ?_
      refine vg_getO (pc := 16) (ci := 10) (f := 5) (dK D_FP_describedByte 8 rfl) q_427 hc0 (ltK rfl) (ltK rfl) rfl ?_
      refine g_iloadn (pc := 19) (i0 := 1) (j := 1) (dK D_FP_describedByte 9 rfl) rfl rfl ?_
      refine bnE h (fun p1 e_p1 h => ?_)
      refine vg_cV (pc := 20) (As := [V a1]) (rest := []) (mc' := 0) (ms' := 0) (dK D_FP_describedByte 10 rfl) K_FP_355 (fitK rfl) (ltK rfl) (hw_10_5 hc0) rfl (leK rfl) (leK rfl) (leK rfl) (tf_Bytes_byteAt (hw_10_5 hc0) ha1 e_p1) (kcI (fun h_p1 => ?_))
      refine g_goto (pc := 23) (tgt := 27) (dK D_FP_describedByte 11 rfl) rfl ?_
      exact vg_iretI (pc := 27) (r := p1) (dK D_FP_describedByte 13 rfl) rfl (leK rfl) (leK rfl) (fun _ => rfl) (by obtain rfl := Option.some.inj h; exact ⟨rfl, h_p1, rfl⟩)
def lb_FP_digest_12 (c0 : Nat) (c1 : Nat) (S : St) (go : Int × Int → Option (Int)) (a2 : Int) (a3 : Int) : Option (Int) := if (g S (tgt c1 0) 7) ≤ a3 then (some a2) else (if 0 ≤ a3 ∧ a3 < 40 then (nm (wr ((31 * a2) + (g S (tgt (tgt c1 0) 6) a3.toNat))) fun v2 => nm (wr (a3 + 1)) fun v3 => go (v2, v3)) else none)
def lo_FP_digest_12 (c0 : Nat) (c1 : Nat) (S : St) : Nat → Int × Int → Option (Int) := lp fun go p => lb_FP_digest_12 c0 c1 S go p.1 p.2
theorem tl_FP_digest_12 {E : EV} {X : XT} {c0 : Nat} (hc0 : HC X 10 c0) {c1 : Nat} (hc1 : HC X 8 c1) {S : St} {K : RK → PS → Prop} {q : Int} (hx : inR q → Go E M_FP_digest 0 0 44 [(0, .ref c0), (1, .ref c1), (2, V q)] [] (WX X S) 0 0 K) : ∀ n a, lo_FP_digest_12 c0 c1 S n a = some q → inR a.1 → inR a.2 → Go E M_FP_digest 0 0 12 [(0, .ref c0), (1, .ref c1), (2, V a.1), (3, V a.2)] [] (WX X S) 0 0 K := by
  refine lp_ind (P := fun a : Int × Int => inR a.1 → inR a.2 → Go E M_FP_digest 0 0 12 [(0, .ref c0), (1, .ref c1), (2, V a.1), (3, V a.2)] [] (WX X S) 0 0 K) (fun go ih a h => ?_)
  obtain ⟨a2, a3⟩ := a
  intro ha2 ha3
  show Go E M_FP_digest 0 0 12 [(0, .ref c0), (1, .ref c1), (2, V a2), (3, V a3)] [] (WX X S) 0 0 K
  replace h : lb_FP_digest_12 c0 c1 S go a2 a3 = some q := h
  unfold lb_FP_digest_12 at h
  refine g_iloadn (pc := 12) (i0 := 3) (j := 3) (dK D_FP_digest_0 8 rfl) rfl rfl ?_
  refine g_aloadn (pc := 13) (i0 := 1) (j := 1) (dK D_FP_digest_0 9 rfl) rfl rfl ?_
  refine vg_getO (pc := 14) (ci := 8) (f := 0) (dK D_FP_digest_0 10 rfl) q_224 hc1 (ltK rfl) (ltK rfl) rfl ?_
  refine vg_getI (pc := 17) (ci := 0) (f := 7) (dK D_FP_digest_0 11 rfl) q_109 (hw_8_0 hc1) (ltK rfl) (ltK rfl) rfl ?_
  refine vg_icmp_ge (pc := 20) (t := 44) (dK D_FP_digest_0 12 rfl) rfl ha3 (g_in _ _ _) (fun hc4 => ?_) (fun hc4 => ?_)
  · replace h := ifP h hc4
    obtain rfl := Option.some.inj h
    refine gL_weak (ls' := [(0, .ref c0), (1, .ref c1), (2, V a2)]) (sbc 0 rfl (sbc 1 rfl (sbc 2 rfl sbn))) ?_
    exact hx ha2
  · replace h := ifN h hc4
    refine vg_bipush (pc := 23) (dK D_FP_digest_0 13 rfl) rfl ?_
    refine g_iloadn (pc := 25) (i0 := 2) (j := 2) (dK D_FP_digest_0 14 rfl) rfl rfl ?_
    refine vg_imul (pc := 26) (dK D_FP_digest_0 15 rfl) ?_
    refine g_aloadn (pc := 27) (i0 := 1) (j := 1) (dK D_FP_digest_0 16 rfl) rfl rfl ?_
    refine vg_getO (pc := 28) (ci := 8) (f := 0) (dK D_FP_digest_0 17 rfl) q_224 hc1 (ltK rfl) (ltK rfl) rfl ?_
    refine vg_getA (pc := 31) (ci := 0) (f := 6) (dK D_FP_digest_0 18 rfl) q_103 (hw_8_0 hc1) (ltK rfl) (ltK rfl) rfl ?_
    refine g_iloadn (pc := 34) (i0 := 3) (j := 3) (dK D_FP_digest_0 19 rfl) rfl rfl ?_
    refine gdE h (fun hi1 h => ?_)
    refine vg_iaload (pc := 35) (j := a3.toNat) (dK D_FP_digest_0 20 rfl) (hw_0_6 (hw_8_0 hc1)) rfl hi1 rfl ?_
    refine vg_iadd (pc := 36) (dK D_FP_digest_0 21 rfl) ?_
    refine nmE h (fun v2 e_v2 h => ?_)
    refine gtop e_v2 ?_
    refine g_istoren (pc := 37) (i0 := 2) (ls2 := [(2, V v2), (0, .ref c0), (1, .ref c1), (3, V a3)]) (dK D_FP_digest_0 22 rfl) rfl (ltK rfl) rfl ?_
    refine nmE h (fun v3 e_v3 h => ?_)
    refine vg_iinc (pc := 38) (j := 3) (a := a3) (z := 1) (ls2 := [(3, V v3), (2, V v2), (0, .ref c0), (1, .ref c1)]) (dK D_FP_digest_0 23 rfl) rfl e_v3 (ltK rfl) rfl ?_
    refine g_goto (pc := 41) (tgt := 12) (dK D_FP_digest_0 24 rfl) rfl ?_
    refine gL_weak (ls' := [(0, .ref c0), (1, .ref c1), (2, V v2), (3, V v3)]) (sbc 2 rfl (sbc 3 rfl (sbc 1 rfl (sbc 0 rfl sbn)))) ?_
    replace h := ih _ h
    exact h (Vn_in e_v2) (Vn_in e_v3)
def lb_FP_digest_46 (c0 : Nat) (c1 : Nat) (S : St) (go : Int × Int → Option (Int)) (a2 : Int) (a3 : Int) : Option (Int) := if (g S (tgt c1 1) 5) ≤ a3 then (some a2) else (if 0 ≤ a3 ∧ a3 < 10 then (nm (wr ((31 * a2) + (g S (tgt (tgt c1 1) 4) a3.toNat))) fun v7 => nm (wr (a3 + 1)) fun v8 => go (v7, v8)) else none)
def lo_FP_digest_46 (c0 : Nat) (c1 : Nat) (S : St) : Nat → Int × Int → Option (Int) := lp fun go p => lb_FP_digest_46 c0 c1 S go p.1 p.2
theorem tl_FP_digest_46 {E : EV} {X : XT} {c0 : Nat} (hc0 : HC X 10 c0) {c1 : Nat} (hc1 : HC X 8 c1) {S : St} {K : RK → PS → Prop} {q : Int} (hx : inR q → Go E M_FP_digest 0 0 78 [(0, .ref c0), (1, .ref c1), (2, V q)] [] (WX X S) 0 0 K) : ∀ n a, lo_FP_digest_46 c0 c1 S n a = some q → inR a.1 → inR a.2 → Go E M_FP_digest 0 0 46 [(0, .ref c0), (1, .ref c1), (2, V a.1), (3, V a.2)] [] (WX X S) 0 0 K := by
  refine lp_ind (P := fun a : Int × Int => inR a.1 → inR a.2 → Go E M_FP_digest 0 0 46 [(0, .ref c0), (1, .ref c1), (2, V a.1), (3, V a.2)] [] (WX X S) 0 0 K) (fun go ih a h => ?_)
  obtain ⟨a2, a3⟩ := a
  intro ha2 ha3
  show Go E M_FP_digest 0 0 46 [(0, .ref c0), (1, .ref c1), (2, V a2), (3, V a3)] [] (WX X S) 0 0 K
  replace h : lb_FP_digest_46 c0 c1 S go a2 a3 = some q := h
  unfold lb_FP_digest_46 at h
  refine g_iloadn (pc := 46) (i0 := 3) (j := 3) (dK D_FP_digest_0 27 rfl) rfl rfl ?_
  refine g_aloadn (pc := 47) (i0 := 1) (j := 1) (dK D_FP_digest_0 28 rfl) rfl rfl ?_
  refine vg_getO (pc := 48) (ci := 8) (f := 1) (dK D_FP_digest_0 29 rfl) q_229 hc1 (ltK rfl) (ltK rfl) rfl ?_
  refine vg_getI (pc := 51) (ci := 9) (f := 5) (dK D_FP_digest_0 30 rfl) q_157 (hw_8_1 hc1) (ltK rfl) (ltK rfl) rfl ?_
  refine vg_icmp_ge (pc := 54) (t := 78) (dK D_FP_digest_0 31 rfl) rfl ha3 (g_in _ _ _) (fun hc9 => ?_) (fun hc9 => ?_)
  · replace h := ifP h hc9
    obtain rfl := Option.some.inj h
    refine gL_weak (ls' := [(0, .ref c0), (1, .ref c1), (2, V a2)]) (sbc 0 rfl (sbc 1 rfl (sbc 2 rfl sbn))) ?_
    exact hx ha2
  · replace h := ifN h hc9
    refine vg_bipush (pc := 57) (dK D_FP_digest_0 32 rfl) rfl ?_
    refine g_iloadn (pc := 59) (i0 := 2) (j := 2) (dK D_FP_digest_0 33 rfl) rfl rfl ?_
    refine vg_imul (pc := 60) (dK D_FP_digest_0 34 rfl) ?_
    refine g_aloadn (pc := 61) (i0 := 1) (j := 1) (dK D_FP_digest_0 35 rfl) rfl rfl ?_
    refine vg_getO (pc := 62) (ci := 8) (f := 1) (dK D_FP_digest_0 36 rfl) q_229 hc1 (ltK rfl) (ltK rfl) rfl ?_
    refine vg_getA (pc := 65) (ci := 9) (f := 4) (dK D_FP_digest_0 37 rfl) q_151 (hw_8_1 hc1) (ltK rfl) (ltK rfl) rfl ?_
    refine g_iloadn (pc := 68) (i0 := 3) (j := 3) (dK D_FP_digest_0 38 rfl) rfl rfl ?_
    refine gdE h (fun hi6 h => ?_)
    refine vg_iaload (pc := 69) (j := a3.toNat) (dK D_FP_digest_0 39 rfl) (hw_9_4 (hw_8_1 hc1)) rfl hi6 rfl ?_
    refine vg_iadd (pc := 70) (dK D_FP_digest_0 40 rfl) ?_
    refine nmE h (fun v7 e_v7 h => ?_)
    refine gtop e_v7 ?_
    refine g_istoren (pc := 71) (i0 := 2) (ls2 := [(2, V v7), (0, .ref c0), (1, .ref c1), (3, V a3)]) (dK D_FP_digest_0 41 rfl) rfl (ltK rfl) rfl ?_
    refine nmE h (fun v8 e_v8 h => ?_)
    refine vg_iinc (pc := 72) (j := 3) (a := a3) (z := 1) (ls2 := [(3, V v8), (2, V v7), (0, .ref c0), (1, .ref c1)]) (dK D_FP_digest_0 42 rfl) rfl e_v8 (ltK rfl) rfl ?_
    refine g_goto (pc := 75) (tgt := 46) (dK D_FP_digest_0 43 rfl) rfl ?_
    refine gL_weak (ls' := [(0, .ref c0), (1, .ref c1), (2, V v7), (3, V v8)]) (sbc 2 rfl (sbc 3 rfl (sbc 1 rfl (sbc 0 rfl sbn)))) ?_
    replace h := ih _ h
    exact h (Vn_in e_v7) (Vn_in e_v8)
def lb_FP_digest_80 (c0 : Nat) (c1 : Nat) (S : St) (go : Int × Int → Option (Int)) (a2 : Int) (a3 : Int) : Option (Int) := if (g S (tgt c1 2) 2) ≤ a3 then (some a2) else (if 0 ≤ a3 ∧ a3 < 8 then (nm (wr ((31 * a2) + (g S (tgt (tgt c1 2) 1) a3.toNat))) fun v12 => nm (wr (a3 + 1)) fun v13 => go (v12, v13)) else none)
def lo_FP_digest_80 (c0 : Nat) (c1 : Nat) (S : St) : Nat → Int × Int → Option (Int) := lp fun go p => lb_FP_digest_80 c0 c1 S go p.1 p.2
theorem tl_FP_digest_80 {E : EV} {X : XT} {c0 : Nat} (hc0 : HC X 10 c0) {c1 : Nat} (hc1 : HC X 8 c1) {S : St} {K : RK → PS → Prop} {q : Int} (hx : inR q → Go E M_FP_digest 0 0 112 [(0, .ref c0), (1, .ref c1), (2, V q)] [] (WX X S) 0 0 K) : ∀ n a, lo_FP_digest_80 c0 c1 S n a = some q → inR a.1 → inR a.2 → Go E M_FP_digest 0 0 80 [(0, .ref c0), (1, .ref c1), (2, V a.1), (3, V a.2)] [] (WX X S) 0 0 K := by
  refine lp_ind (P := fun a : Int × Int => inR a.1 → inR a.2 → Go E M_FP_digest 0 0 80 [(0, .ref c0), (1, .ref c1), (2, V a.1), (3, V a.2)] [] (WX X S) 0 0 K) (fun go ih a h => ?_)
  obtain ⟨a2, a3⟩ := a
  intro ha2 ha3
  show Go E M_FP_digest 0 0 80 [(0, .ref c0), (1, .ref c1), (2, V a2), (3, V a3)] [] (WX X S) 0 0 K
  replace h : lb_FP_digest_80 c0 c1 S go a2 a3 = some q := h
  unfold lb_FP_digest_80 at h
  refine g_iloadn (pc := 80) (i0 := 3) (j := 3) (dK D_FP_digest_0 46 rfl) rfl rfl ?_
  refine g_aloadn (pc := 81) (i0 := 1) (j := 1) (dK D_FP_digest_0 47 rfl) rfl rfl ?_
  refine vg_getO (pc := 82) (ci := 8) (f := 2) (dK D_FP_digest_0 48 rfl) q_232 hc1 (ltK rfl) (ltK rfl) rfl ?_
  refine vg_getI (pc := 85) (ci := 7) (f := 2) (dK D_FP_digest_0 49 rfl) q_185 (hw_8_2 hc1) (ltK rfl) (ltK rfl) rfl ?_
  refine vg_icmp_ge (pc := 88) (t := 112) (dK D_FP_digest_1 0 rfl) rfl ha3 (g_in _ _ _) (fun hc14 => ?_) (fun hc14 => ?_)
  · replace h := ifP h hc14
    obtain rfl := Option.some.inj h
    refine gL_weak (ls' := [(0, .ref c0), (1, .ref c1), (2, V a2)]) (sbc 0 rfl (sbc 1 rfl (sbc 2 rfl sbn))) ?_
    exact hx ha2
  · replace h := ifN h hc14
    refine vg_bipush (pc := 91) (dK D_FP_digest_1 1 rfl) rfl ?_
    refine g_iloadn (pc := 93) (i0 := 2) (j := 2) (dK D_FP_digest_1 2 rfl) rfl rfl ?_
    refine vg_imul (pc := 94) (dK D_FP_digest_1 3 rfl) ?_
    refine g_aloadn (pc := 95) (i0 := 1) (j := 1) (dK D_FP_digest_1 4 rfl) rfl rfl ?_
    refine vg_getO (pc := 96) (ci := 8) (f := 2) (dK D_FP_digest_1 5 rfl) q_232 hc1 (ltK rfl) (ltK rfl) rfl ?_
    refine vg_getA (pc := 99) (ci := 7) (f := 1) (dK D_FP_digest_1 6 rfl) q_182 (hw_8_2 hc1) (ltK rfl) (ltK rfl) rfl ?_
    refine g_iloadn (pc := 102) (i0 := 3) (j := 3) (dK D_FP_digest_1 7 rfl) rfl rfl ?_
    refine gdE h (fun hi11 h => ?_)
    refine vg_iaload (pc := 103) (j := a3.toNat) (dK D_FP_digest_1 8 rfl) (hw_7_1 (hw_8_2 hc1)) rfl hi11 rfl ?_
    refine vg_iadd (pc := 104) (dK D_FP_digest_1 9 rfl) ?_
    refine nmE h (fun v12 e_v12 h => ?_)
    refine gtop e_v12 ?_
    refine g_istoren (pc := 105) (i0 := 2) (ls2 := [(2, V v12), (0, .ref c0), (1, .ref c1), (3, V a3)]) (dK D_FP_digest_1 10 rfl) rfl (ltK rfl) rfl ?_
    refine nmE h (fun v13 e_v13 h => ?_)
    refine vg_iinc (pc := 106) (j := 3) (a := a3) (z := 1) (ls2 := [(3, V v13), (2, V v12), (0, .ref c0), (1, .ref c1)]) (dK D_FP_digest_1 11 rfl) rfl e_v13 (ltK rfl) rfl ?_
    refine g_goto (pc := 109) (tgt := 80) (dK D_FP_digest_1 12 rfl) rfl ?_
    refine gL_weak (ls' := [(0, .ref c0), (1, .ref c1), (2, V v12), (3, V v13)]) (sbc 2 rfl (sbc 3 rfl (sbc 1 rfl (sbc 0 rfl sbn)))) ?_
    replace h := ih _ h
    exact h (Vn_in e_v12) (Vn_in e_v13)
def lb_FP_digest_114 (c0 : Nat) (c1 : Nat) (S : St) (go : Int × Int → Option (Int)) (a2 : Int) (a3 : Int) : Option (Int) := if (g S (tgt c0 3) 2) ≤ a3 then (some a2) else (if 0 ≤ a3 ∧ a3 < 8 then (nm (wr ((31 * a2) + (g S (tgt (tgt c1 3) 1) a3.toNat))) fun v17 => nm (wr (a3 + 1)) fun v18 => go (v17, v18)) else none)
def lo_FP_digest_114 (c0 : Nat) (c1 : Nat) (S : St) : Nat → Int × Int → Option (Int) := lp fun go p => lb_FP_digest_114 c0 c1 S go p.1 p.2
theorem tl_FP_digest_114 {E : EV} {X : XT} {c0 : Nat} (hc0 : HC X 10 c0) {c1 : Nat} (hc1 : HC X 8 c1) {S : St} {K : RK → PS → Prop} {q : Int} (hx : inR q → Go E M_FP_digest 0 0 146 [(2, V q)] [] (WX X S) 0 0 K) : ∀ n a, lo_FP_digest_114 c0 c1 S n a = some q → inR a.1 → inR a.2 → Go E M_FP_digest 0 0 114 [(0, .ref c0), (1, .ref c1), (2, V a.1), (3, V a.2)] [] (WX X S) 0 0 K := by
  refine lp_ind (P := fun a : Int × Int => inR a.1 → inR a.2 → Go E M_FP_digest 0 0 114 [(0, .ref c0), (1, .ref c1), (2, V a.1), (3, V a.2)] [] (WX X S) 0 0 K) (fun go ih a h => ?_)
  obtain ⟨a2, a3⟩ := a
  intro ha2 ha3
  show Go E M_FP_digest 0 0 114 [(0, .ref c0), (1, .ref c1), (2, V a2), (3, V a3)] [] (WX X S) 0 0 K
  replace h : lb_FP_digest_114 c0 c1 S go a2 a3 = some q := h
  unfold lb_FP_digest_114 at h
  refine g_iloadn (pc := 114) (i0 := 3) (j := 3) (dK D_FP_digest_1 15 rfl) rfl rfl ?_
  refine g_aloadn (pc := 115) (i0 := 0) (j := 0) (dK D_FP_digest_1 16 rfl) rfl rfl ?_
  refine vg_getO (pc := 116) (ci := 10) (f := 3) (dK D_FP_digest_1 17 rfl) q_425 hc0 (ltK rfl) (ltK rfl) rfl ?_
  refine vg_getI (pc := 119) (ci := 4) (f := 2) (dK D_FP_digest_1 18 rfl) q_300 (hw_10_3 hc0) (ltK rfl) (ltK rfl) rfl ?_
  refine vg_icmp_ge (pc := 122) (t := 146) (dK D_FP_digest_1 19 rfl) rfl ha3 (g_in _ _ _) (fun hc19 => ?_) (fun hc19 => ?_)
  · replace h := ifP h hc19
    obtain rfl := Option.some.inj h
    refine gL_weak (ls' := [(2, V a2)]) (sbc 2 rfl sbn) ?_
    exact hx ha2
  · replace h := ifN h hc19
    refine vg_bipush (pc := 125) (dK D_FP_digest_1 20 rfl) rfl ?_
    refine g_iloadn (pc := 127) (i0 := 2) (j := 2) (dK D_FP_digest_1 21 rfl) rfl rfl ?_
    refine vg_imul (pc := 128) (dK D_FP_digest_1 22 rfl) ?_
    refine g_aloadn (pc := 129) (i0 := 1) (j := 1) (dK D_FP_digest_1 23 rfl) rfl rfl ?_
    refine vg_getO (pc := 130) (ci := 8) (f := 3) (dK D_FP_digest_1 24 rfl) q_237 hc1 (ltK rfl) (ltK rfl) rfl ?_
    refine vg_getA (pc := 133) (ci := 2) (f := 1) (dK D_FP_digest_1 25 rfl) q_207 (hw_8_3 hc1) (ltK rfl) (ltK rfl) rfl ?_
    refine g_iloadn (pc := 136) (i0 := 3) (j := 3) (dK D_FP_digest_1 26 rfl) rfl rfl ?_
    refine gdE h (fun hi16 h => ?_)
    refine vg_iaload (pc := 137) (j := a3.toNat) (dK D_FP_digest_1 27 rfl) (hw_2_1 (hw_8_3 hc1)) rfl hi16 rfl ?_
    refine vg_iadd (pc := 138) (dK D_FP_digest_1 28 rfl) ?_
    refine nmE h (fun v17 e_v17 h => ?_)
    refine gtop e_v17 ?_
    refine g_istoren (pc := 139) (i0 := 2) (ls2 := [(2, V v17), (0, .ref c0), (1, .ref c1), (3, V a3)]) (dK D_FP_digest_1 29 rfl) rfl (ltK rfl) rfl ?_
    refine nmE h (fun v18 e_v18 h => ?_)
    refine vg_iinc (pc := 140) (j := 3) (a := a3) (z := 1) (ls2 := [(3, V v18), (2, V v17), (0, .ref c0), (1, .ref c1)]) (dK D_FP_digest_1 30 rfl) rfl e_v18 (ltK rfl) rfl ?_
    refine g_goto (pc := 143) (tgt := 114) (dK D_FP_digest_1 31 rfl) rfl ?_
    refine gL_weak (ls' := [(0, .ref c0), (1, .ref c1), (2, V v17), (3, V v18)]) (sbc 2 rfl (sbc 3 rfl (sbc 1 rfl (sbc 0 rfl sbn)))) ?_
    replace h := ih _ h
    exact h (Vn_in e_v17) (Vn_in e_v18)
def fn_FP_digest (c0 : Nat) (S : St) : Option (Int) := bnO (lo_FP_digest_12 c0 (tgt (tgt c0 3) 0) S FU (1, 0)) fun p5 => bnO (lo_FP_digest_46 c0 (tgt (tgt c0 3) 0) S FU (p5, 0)) fun p10 => bnO (lo_FP_digest_80 c0 (tgt (tgt c0 3) 0) S FU (p10, 0)) fun p15 => bnO (lo_FP_digest_114 c0 (tgt (tgt c0 3) 0) S FU (p15, 0)) fun p20 => some p20
theorem tf_FP_digest {E : EV} {X : XT} {c0 : Nat} (hc0 : HC X 10 c0) {S : St} {q : Int} (h : fn_FP_digest c0 S = some q) : Ev E M_FP_digest [.ref c0] (WX X S) 0 0 (KI X q S) := by
  refine Ev.of pn_FP rfl (leK rfl) ?_
  show Go E M_FP_digest 0 0 0 [(0, .ref c0)] [] (WX X S) 0 0 (KI X q S)
  unfold fn_FP_digest at h
  refine g_aloadn (pc := 0) (i0 := 0) (j := 0) (dK D_FP_digest_0 0 rfl) rfl rfl ?_
  refine vg_getO (pc := 1) (ci := 10) (f := 3) (dK D_FP_digest_0 1 rfl) q_425 hc0 (ltK rfl) (ltK rfl) rfl ?_
  refine vg_getO (pc := 4) (ci := 4) (f := 0) (dK D_FP_digest_0 2 rfl) q_292 (hw_10_3 hc0) (ltK rfl) (ltK rfl) rfl ?_
  refine g_astoren (pc := 7) (i0 := 1) (ls2 := [(1, .ref (tgt (tgt c0 3) 0)), (0, .ref c0)]) (dK D_FP_digest_0 3 rfl) rfl (ltK rfl) rfl ?_
  refine vg_iconst (pc := 8) (dK D_FP_digest_0 4 rfl) ?_
  refine g_istoren (pc := 9) (i0 := 2) (ls2 := [(2, V 1), (1, .ref (tgt (tgt c0 3) 0)), (0, .ref c0)]) (dK D_FP_digest_0 5 rfl) rfl (ltK rfl) rfl ?_
  refine vg_iconst (pc := 10) (dK D_FP_digest_0 6 rfl) ?_
  refine g_istoren (pc := 11) (i0 := 3) (ls2 := [(3, V 0), (2, V 1), (1, .ref (tgt (tgt c0 3) 0)), (0, .ref c0)]) (dK D_FP_digest_0 7 rfl) rfl (ltK rfl) rfl ?_
  refine bnE h (fun p5 e_p5 h => ?_)
  refine gL_weak (ls' := [(0, .ref c0), (1, .ref (tgt (tgt c0 3) 0)), (2, V 1), (3, V 0)]) (sbc 3 rfl (sbc 2 rfl (sbc 1 rfl (sbc 0 rfl sbn)))) ?_
  refine tl_FP_digest_12 hc0 (hw_4_0 (hw_10_3 hc0)) (fun hx2_p5 => ?_) FU (1, 0) e_p5 (inRk rfl) (inRk rfl)
  refine vg_iconst (pc := 44) (dK D_FP_digest_0 25 rfl) ?_
  refine g_istoren (pc := 45) (i0 := 3) (ls2 := [(3, V 0), (0, .ref c0), (1, .ref (tgt (tgt c0 3) 0)), (2, V p5)]) (dK D_FP_digest_0 26 rfl) rfl (ltK rfl) rfl ?_
  refine bnE h (fun p10 e_p10 h => ?_)
  refine gL_weak (ls' := [(0, .ref c0), (1, .ref (tgt (tgt c0 3) 0)), (2, V p5), (3, V 0)]) (sbc 1 rfl (sbc 2 rfl (sbc 3 rfl (sbc 0 rfl sbn)))) ?_
  refine tl_FP_digest_46 hc0 (hw_4_0 (hw_10_3 hc0)) (fun hx2_p10 => ?_) FU (p5, 0) e_p10 hx2_p5 (inRk rfl)
  refine vg_iconst (pc := 78) (dK D_FP_digest_0 44 rfl) ?_
  refine g_istoren (pc := 79) (i0 := 3) (ls2 := [(3, V 0), (0, .ref c0), (1, .ref (tgt (tgt c0 3) 0)), (2, V p10)]) (dK D_FP_digest_0 45 rfl) rfl (ltK rfl) rfl ?_
  refine bnE h (fun p15 e_p15 h => ?_)
  refine gL_weak (ls' := [(0, .ref c0), (1, .ref (tgt (tgt c0 3) 0)), (2, V p10), (3, V 0)]) (sbc 1 rfl (sbc 2 rfl (sbc 3 rfl (sbc 0 rfl sbn)))) ?_
  refine tl_FP_digest_80 hc0 (hw_4_0 (hw_10_3 hc0)) (fun hx2_p15 => ?_) FU (p10, 0) e_p15 hx2_p10 (inRk rfl)
  refine vg_iconst (pc := 112) (dK D_FP_digest_1 13 rfl) ?_
  refine g_istoren (pc := 113) (i0 := 3) (ls2 := [(3, V 0), (0, .ref c0), (1, .ref (tgt (tgt c0 3) 0)), (2, V p15)]) (dK D_FP_digest_1 14 rfl) rfl (ltK rfl) rfl ?_
  refine bnE h (fun p20 e_p20 h => ?_)
  refine gL_weak (ls' := [(0, .ref c0), (1, .ref (tgt (tgt c0 3) 0)), (2, V p15), (3, V 0)]) (sbc 1 rfl (sbc 2 rfl (sbc 3 rfl (sbc 0 rfl sbn)))) ?_
  refine tl_FP_digest_114 hc0 (hw_4_0 (hw_10_3 hc0)) (fun hx2_p20 => ?_) FU (p15, 0) e_p20 hx2_p15 (inRk rfl)
  refine g_iloadn (pc := 146) (i0 := 2) (j := 0) (dK D_FP_digest_1 32 rfl) rfl rfl ?_
  exact vg_iretI (pc := 147) (r := p20) (dK D_FP_digest_1 33 rfl) rfl (leK rfl) (leK rfl) (fun _ => rfl) (by obtain rfl := Option.some.inj h; exact ⟨rfl, hx2_p20, rfl⟩)
def fn_History_bringBack (c0 : Nat) (c1 : Nat) (S : St) : Option (Bool × St) := if (g S c0 2) = 0 then (some (false, S)) else (if (g S c0 1) ≤ 0 then (nm (u S c0 1 19) fun S1 => nm (u S1 c0 2 ((g S1 c0 2) - 1)) fun S2 => if 0 ≤ (g S2 c0 1) ∧ (g S2 c0 1) < 20 then (bnO (fn_Plan_become c1 (tgt (tgt c0 0) (((g S2 c0 1)).toNat)) S2) fun p4 => some (true, p4)) else none) else (nm (u S c0 1 ((g S c0 1) - 1)) fun S5 => nm (u S5 c0 2 ((g S5 c0 2) - 1)) fun S6 => if 0 ≤ (g S6 c0 1) ∧ (g S6 c0 1) < 20 then (bnO (fn_Plan_become c1 (tgt (tgt c0 0) (((g S6 c0 1)).toNat)) S6) fun p8 => some (true, p8)) else none))
theorem tf_History_bringBack {E : EV} {X : XT} {c0 : Nat} (hc0 : HC X 3 c0) {c1 : Nat} (hc1 : HC X 4 c1) {S : St} {q : Bool × St} (h : fn_History_bringBack c0 c1 S = some q) : Ev E M_History_bringBack [.ref c0, .ref c1] (WX X S) 0 0 (KB X q.1 q.2) := by
  refine Ev.of pn_History rfl (leK rfl) ?_
  show Go E M_History_bringBack 0 0 0 [(0, .ref c0), (1, .ref c1)] [] (WX X S) 0 0 (KB X q.1 q.2)
  unfold fn_History_bringBack at h
  refine g_aloadn (pc := 0) (i0 := 0) (j := 0) (dK D_History_bringBack 0 rfl) rfl rfl ?_
  refine vg_getI (pc := 1) (ci := 3) (f := 2) (dK D_History_bringBack 1 rfl) q_411 hc0 (ltK rfl) (ltK rfl) rfl ?_
  refine vg_if_ne (pc := 4) (t := 9) (dK D_History_bringBack 2 rfl) rfl (g_in _ _ _) (fun hc10 => ?_) (fun hc10 => ?_)
  · replace h := ifN h hc10
    refine g_aloadn (pc := 9) (i0 := 0) (j := 0) (dK D_History_bringBack 5 rfl) rfl rfl ?_
    refine g_aloadn (pc := 10) (i0 := 0) (j := 0) (dK D_History_bringBack 6 rfl) rfl rfl ?_
    refine vg_getI (pc := 11) (ci := 3) (f := 1) (dK D_History_bringBack 7 rfl) q_410 hc0 (ltK rfl) (ltK rfl) rfl ?_
    refine vg_if_le (pc := 14) (t := 26) (dK D_History_bringBack 8 rfl) rfl (g_in _ _ _) (fun hc9 => ?_) (fun hc9 => ?_)
    · replace h := ifP h hc9
      refine vg_bipush (pc := 26) (dK D_History_bringBack 14 rfl) rfl ?_
      refine nmE h (fun S1 e_S1 h => ?_)
      refine vg_putI (pc := 28) (ci := 3) (f := 1) (z := 19) (dK D_History_bringBack 15 rfl) q_410 hc0 (ltK rfl) (ltK rfl) rfl rfl e_S1 ?_
      refine g_aloadn (pc := 31) (i0 := 0) (j := 0) (dK D_History_bringBack 16 rfl) rfl rfl ?_
      refine g_dup (pc := 32) (dK D_History_bringBack 17 rfl) rfl ?_
      refine vg_getI (pc := 33) (ci := 3) (f := 2) (dK D_History_bringBack 18 rfl) q_411 hc0 (ltK rfl) (ltK rfl) rfl ?_
      refine vg_iconst (pc := 36) (dK D_History_bringBack 19 rfl) ?_
      refine vg_isub (pc := 37) (dK D_History_bringBack 20 rfl) ?_
      refine nmE h (fun S2 e_S2 h => ?_)
      refine vg_putI (pc := 38) (ci := 3) (f := 2) (z := ((g S1 c0 2) - 1)) (dK D_History_bringBack 21 rfl) q_411 hc0 (ltK rfl) (ltK rfl) rfl rfl e_S2 ?_
      refine g_aloadn (pc := 41) (i0 := 1) (j := 1) (dK D_History_bringBack 22 rfl) rfl rfl ?_
      refine g_aloadn (pc := 42) (i0 := 0) (j := 0) (dK D_History_bringBack 23 rfl) rfl rfl ?_
      refine vg_getA (pc := 43) (ci := 3) (f := 0) (dK D_History_bringBack 24 rfl) q_409 hc0 (ltK rfl) (ltK rfl) rfl ?_
      refine g_aloadn (pc := 46) (i0 := 0) (j := 0) (dK D_History_bringBack 25 rfl) rfl rfl ?_
      refine vg_getI (pc := 47) (ci := 3) (f := 1) (dK D_History_bringBack 26 rfl) q_410 hc0 (ltK rfl) (ltK rfl) rfl ?_
      refine gdE h (fun hi3 h => ?_)
      refine vg_aaload (pc := 50) (j := ((g S2 c0 1)).toNat) (dK D_History_bringBack 27 rfl) (hw_3_0 hc0) rfl hi3 rfl ?_
      refine bnE h (fun p4 e_p4 h => ?_)
      refine vg_cV (pc := 51) (As := [.ref (tgt (tgt c0 0) (((g S2 c0 1)).toNat))]) (rest := []) (mc' := 0) (ms' := 0) (dK D_History_bringBack 28 rfl) K_History_35 (fitK rfl) (ltK rfl) hc1 rfl (leK rfl) (leK rfl) (leK rfl) (tf_Plan_become hc1 (hw_kept (hw_3_0 hc0) (ix_lt hi3)) e_p4) (kcU ?_)
      refine vg_iconst (pc := 54) (dK D_History_bringBack 29 rfl) ?_
      exact vg_iretB (pc := 55) (b := true) (dK D_History_bringBack 30 rfl) rfl (leK rfl) (leK rfl) (fun _ => rfl) (by obtain rfl := Option.some.inj h; exact ⟨rfl, rfl⟩)
    · replace h := ifN h hc9
      refine g_aloadn (pc := 17) (i0 := 0) (j := 0) (dK D_History_bringBack 9 rfl) rfl rfl ?_
      refine vg_getI (pc := 18) (ci := 3) (f := 1) (dK D_History_bringBack 10 rfl) q_410 hc0 (ltK rfl) (ltK rfl) rfl ?_
      refine vg_iconst (pc := 21) (dK D_History_bringBack 11 rfl) ?_
      refine vg_isub (pc := 22) (dK D_History_bringBack 12 rfl) ?_
      refine g_goto (pc := 23) (tgt := 28) (dK D_History_bringBack 13 rfl) rfl ?_
      refine nmE h (fun S5 e_S5 h => ?_)
      refine vg_putI (pc := 28) (ci := 3) (f := 1) (z := ((g S c0 1) - 1)) (dK D_History_bringBack 15 rfl) q_410 hc0 (ltK rfl) (ltK rfl) rfl rfl e_S5 ?_
      refine g_aloadn (pc := 31) (i0 := 0) (j := 0) (dK D_History_bringBack 16 rfl) rfl rfl ?_
      refine g_dup (pc := 32) (dK D_History_bringBack 17 rfl) rfl ?_
      refine vg_getI (pc := 33) (ci := 3) (f := 2) (dK D_History_bringBack 18 rfl) q_411 hc0 (ltK rfl) (ltK rfl) rfl ?_
      refine vg_iconst (pc := 36) (dK D_History_bringBack 19 rfl) ?_
      refine vg_isub (pc := 37) (dK D_History_bringBack 20 rfl) ?_
      refine nmE h (fun S6 e_S6 h => ?_)
      refine vg_putI (pc := 38) (ci := 3) (f := 2) (z := ((g S5 c0 2) - 1)) (dK D_History_bringBack 21 rfl) q_411 hc0 (ltK rfl) (ltK rfl) rfl rfl e_S6 ?_
      refine g_aloadn (pc := 41) (i0 := 1) (j := 1) (dK D_History_bringBack 22 rfl) rfl rfl ?_
      refine g_aloadn (pc := 42) (i0 := 0) (j := 0) (dK D_History_bringBack 23 rfl) rfl rfl ?_
      refine vg_getA (pc := 43) (ci := 3) (f := 0) (dK D_History_bringBack 24 rfl) q_409 hc0 (ltK rfl) (ltK rfl) rfl ?_
      refine g_aloadn (pc := 46) (i0 := 0) (j := 0) (dK D_History_bringBack 25 rfl) rfl rfl ?_
      refine vg_getI (pc := 47) (ci := 3) (f := 1) (dK D_History_bringBack 26 rfl) q_410 hc0 (ltK rfl) (ltK rfl) rfl ?_
      refine gdE h (fun hi7 h => ?_)
      refine vg_aaload (pc := 50) (j := ((g S6 c0 1)).toNat) (dK D_History_bringBack 27 rfl) (hw_3_0 hc0) rfl hi7 rfl ?_
      refine bnE h (fun p8 e_p8 h => ?_)
      refine vg_cV (pc := 51) (As := [.ref (tgt (tgt c0 0) (((g S6 c0 1)).toNat))]) (rest := []) (mc' := 0) (ms' := 0) (dK D_History_bringBack 28 rfl) K_History_35 (fitK rfl) (ltK rfl) hc1 rfl (leK rfl) (leK rfl) (leK rfl) (tf_Plan_become hc1 (hw_kept (hw_3_0 hc0) (ix_lt hi7)) e_p8) (kcU ?_)
      refine vg_iconst (pc := 54) (dK D_History_bringBack 29 rfl) ?_
      exact vg_iretB (pc := 55) (b := true) (dK D_History_bringBack 30 rfl) rfl (leK rfl) (leK rfl) (fun _ => rfl) (by obtain rfl := Option.some.inj h; exact ⟨rfl, rfl⟩)
  · replace h := ifP h hc10
    refine vg_iconst (pc := 7) (dK D_History_bringBack 3 rfl) ?_
    exact vg_iretB (pc := 8) (b := false) (dK D_History_bringBack 4 rfl) rfl (leK rfl) (leK rfl) (fun _ => rfl) (by obtain rfl := Option.some.inj h; exact ⟨rfl, rfl⟩)
def fn_FP_undo (c0 : Nat) (S : St) : Option (Bool × St) := bnO (fn_History_bringBack (tgt c0 4) (tgt c0 3) S) fun p1 => some (p1.1, p1.2)
theorem tf_FP_undo {E : EV} {X : XT} {c0 : Nat} (hc0 : HC X 10 c0) {S : St} {q : Bool × St} (h : fn_FP_undo c0 S = some q) : Ev E M_FP_undo [.ref c0] (WX X S) 0 0 (KB X q.1 q.2) := by
  refine Ev.of pn_FP rfl (leK rfl) ?_
  show Go E M_FP_undo 0 0 0 [(0, .ref c0)] [] (WX X S) 0 0 (KB X q.1 q.2)
  unfold fn_FP_undo at h
  refine g_aloadn (pc := 0) (i0 := 0) (j := 0) (dK D_FP_undo 0 rfl) rfl rfl ?_
  refine vg_getO (pc := 1) (ci := 10) (f := 4) (dK D_FP_undo 1 rfl) q_426 hc0 (ltK rfl) (ltK rfl) rfl ?_
  refine g_aloadn (pc := 4) (i0 := 0) (j := 0) (dK D_FP_undo 2 rfl) rfl rfl ?_
  refine vg_getO (pc := 5) (ci := 10) (f := 3) (dK D_FP_undo 3 rfl) q_425 hc0 (ltK rfl) (ltK rfl) rfl ?_
  refine bnE h (fun p1 e_p1 h => ?_)
  refine vg_cV (pc := 8) (As := [.ref (tgt c0 3)]) (rest := []) (mc' := 0) (ms' := 0) (dK D_FP_undo 4 rfl) K_FP_358 (fitK rfl) (ltK rfl) (hw_10_4 hc0) rfl (leK rfl) (leK rfl) (leK rfl) (tf_History_bringBack (hw_10_4 hc0) (hw_10_3 hc0) e_p1) (kcB ?_)
  exact vg_iretB (pc := 11) (b := p1.1) (dK D_FP_undo 5 rfl) rfl (leK rfl) (leK rfl) (fun _ => rfl) (by obtain rfl := Option.some.inj h; exact ⟨rfl, rfl⟩)
def fn_FP_undoCount (c0 : Nat) (S : St) : Option (Int) := some (g S (tgt c0 4) 2)
theorem tf_FP_undoCount {E : EV} {X : XT} {c0 : Nat} (hc0 : HC X 10 c0) {S : St} {q : Int} (h : fn_FP_undoCount c0 S = some q) : Ev E M_FP_undoCount [.ref c0] (WX X S) 0 0 (KI X q S) := by
  refine Ev.of pn_FP rfl (leK rfl) ?_
  show Go E M_FP_undoCount 0 0 0 [(0, .ref c0)] [] (WX X S) 0 0 (KI X q S)
  unfold fn_FP_undoCount at h
  refine g_aloadn (pc := 0) (i0 := 0) (j := 0) (dK D_FP_undoCount 0 rfl) rfl rfl ?_
  refine vg_getO (pc := 1) (ci := 10) (f := 4) (dK D_FP_undoCount 1 rfl) q_426 hc0 (ltK rfl) (ltK rfl) rfl ?_
  refine vg_getI (pc := 4) (ci := 3) (f := 2) (dK D_FP_undoCount 2 rfl) q_412 (hw_10_4 hc0) (ltK rfl) (ltK rfl) rfl ?_
  exact vg_iretI (pc := 7) (r := (g S (tgt c0 4) 2)) (dK D_FP_undoCount 3 rfl) rfl (leK rfl) (leK rfl) (fun _ => rfl) (by obtain rfl := Option.some.inj h; exact ⟨rfl, (g_in _ _ _), rfl⟩)
def fn_FP_isPrice (a0 : Int) (S : St) : Option (Bool) := if a0 < 1 then (some false) else (if 999 < a0 then (some false) else (some true))
theorem tf_FP_isPrice {E : EV} {X : XT} {a0 : Int} (ha0 : inR a0) {S : St} {q : Bool} (h : fn_FP_isPrice a0 S = some q) : Ev E M_FP_isPrice [V a0] (WX X S) 0 0 (KB X q S) := by
  refine Ev.of pn_FP rfl (leK rfl) ?_
  show Go E M_FP_isPrice 0 0 0 [(0, V a0)] [] (WX X S) 0 0 (KB X q S)
  unfold fn_FP_isPrice at h
  refine g_iloadn (pc := 0) (i0 := 0) (j := 0) (dK D_FP_isPrice 0 rfl) rfl rfl ?_
  refine vg_iconst (pc := 1) (dK D_FP_isPrice 1 rfl) ?_
  refine vg_icmp_lt (pc := 2) (t := 16) (dK D_FP_isPrice 2 rfl) rfl ha0 (inRk rfl) (fun hc2 => ?_) (fun hc2 => ?_)
  · replace h := ifP h hc2
    refine vg_iconst (pc := 16) (dK D_FP_isPrice 8 rfl) ?_
    exact vg_iretB (pc := 17) (b := false) (dK D_FP_isPrice 9 rfl) rfl (leK rfl) (leK rfl) (fun _ => rfl) (by obtain rfl := Option.some.inj h; exact ⟨rfl, rfl⟩)
  · replace h := ifN h hc2
    refine g_iloadn (pc := 5) (i0 := 0) (j := 0) (dK D_FP_isPrice 3 rfl) rfl rfl ?_
    refine vg_sipush (pc := 6) (dK D_FP_isPrice 4 rfl) rfl ?_
    refine vg_icmp_gt (pc := 9) (t := 16) (dK D_FP_isPrice 5 rfl) rfl ha0 (inRk rfl) (fun hc1 => ?_) (fun hc1 => ?_)
    · replace h := ifP h hc1
      refine vg_iconst (pc := 16) (dK D_FP_isPrice 8 rfl) ?_
      exact vg_iretB (pc := 17) (b := false) (dK D_FP_isPrice 9 rfl) rfl (leK rfl) (leK rfl) (fun _ => rfl) (by obtain rfl := Option.some.inj h; exact ⟨rfl, rfl⟩)
    · replace h := ifN h hc1
      refine vg_iconst (pc := 12) (dK D_FP_isPrice 6 rfl) ?_
      refine g_goto (pc := 13) (tgt := 17) (dK D_FP_isPrice 7 rfl) rfl ?_
      exact vg_iretB (pc := 17) (b := true) (dK D_FP_isPrice 9 rfl) rfl (leK rfl) (leK rfl) (fun _ => rfl) (by obtain rfl := Option.some.inj h; exact ⟨rfl, rfl⟩)
def fn_FP_addAd (c0 : Nat) (a1 : Int) (a2 : Int) (a3 : Int) (a4 : Int) (S : St) : Option (Nat × Int × St) := bnO (fn_FP_isSize a1 S) fun p1 => if p1 = true then (if a2 < 0 then (some (2, 0, S)) else (if 10 ≤ a2 then (some (2, 0, S)) else (bnO (fn_FP_isPrice a3 S) fun p3 => if p3 = true then (if a4 < 0 then (some (2, 0, S)) else (if a4 ≤ 9999 then (if (g S (tgt (tgt (tgt c0 3) 0) 0) 7) < 40 then (bnO (fn_History_keep (tgt c0 4) (tgt (tgt c0 3) 0) S) fun p5 => bnO (fn_Ads_add (tgt (tgt (tgt c0 3) 0) 0) a1 a2 a3 a4 p5) fun p6 => some (0, p6.1, p6.2)) else (some (0, (-2), S))) else (some (2, 0, S)))) else (some (2, 0, S))))) else (some (2, 0, S))
theorem tf_FP_addAd {E : EV} {X : XT} (hfl : X.2.2.2 = false) {c0 : Nat} (hc0 : HC X 10 c0) {a1 : Int} (ha1 : inR a1) {a2 : Int} (ha2 : inR a2) {a3 : Int} (ha3 : inR a3) {a4 : Int} (ha4 : inR a4) {S : St} {q : Nat × Int × St} (h : fn_FP_addAd c0 a1 a2 a3 a4 S = some q) : Ev E M_FP_addAd [.ref c0, V a1, V a2, V a3, V a4] (WX X S) 1 6 (KT X q.1 q.2.2 (KI X q.2.1 q.2.2)) := by
  refine Ev.of pn_FP rfl (leK rfl) ?_
  show Go E M_FP_addAd 1 6 0 [(0, .ref c0), (1, V a1), (2, V a2), (3, V a3), (4, V a4)] [] (WX X S) 0 0 (KT X q.1 q.2.2 (KI X q.2.1 q.2.2))
  unfold fn_FP_addAd at h
  refine g_iloadn (pc := 0) (i0 := 1) (j := 1) (dK D_FP_addAd 0 rfl) rfl rfl ?_
  refine bnE h (fun p1 e_p1 h => ?_)
  refine vg_cS (pc := 1) (As := [V a1]) (rest := []) (mc' := 0) (ms' := 0) (dK D_FP_addAd 1 rfl) K_FP_141 (fitK rfl) rfl (leK rfl) (leK rfl) (leK rfl) (tf_FP_isSize ha1 e_p1) (kcB ?_)
  refine vg_ifB_eq (pc := 4) (b := p1) (t := 37) (dK D_FP_addAd 2 rfl) rfl (fun hc2 => ?_) (fun hc2 => ?_)
  · replace h := ifP h hc2
    refine g_iloadn (pc := 7) (i0 := 2) (j := 2) (dK D_FP_addAd 3 rfl) rfl rfl ?_
    refine vg_if_lt (pc := 8) (t := 37) (dK D_FP_addAd 4 rfl) rfl ha2 (fun hc11 => ?_) (fun hc11 => ?_)
    · replace h := ifP h hc11
      exact vg_throw hfl (pc := 37) TH_FP_148_150 (dK D_FP_addAd 16 rfl) (dK D_FP_addAd 17 rfl) (dK D_FP_addAd 18 rfl) (dK D_FP_addAd 19 rfl) (dK D_FP_addAd 20 rfl) rfl (leK rfl) (leK rfl) (leK rfl) (leK rfl) (leK rfl) (by obtain rfl := Option.some.inj h; exact KT_thr (e := 2) (by decide))
    · replace h := ifN h hc11
      refine g_iloadn (pc := 11) (i0 := 2) (j := 2) (dK D_FP_addAd 5 rfl) rfl rfl ?_
      refine vg_bipush (pc := 12) (dK D_FP_addAd 6 rfl) rfl ?_
      refine vg_icmp_ge (pc := 14) (t := 37) (dK D_FP_addAd 7 rfl) rfl ha2 (inRk rfl) (fun hc10 => ?_) (fun hc10 => ?_)
      · replace h := ifP h hc10
        exact vg_throw hfl (pc := 37) TH_FP_148_150 (dK D_FP_addAd 16 rfl) (dK D_FP_addAd 17 rfl) (dK D_FP_addAd 18 rfl) (dK D_FP_addAd 19 rfl) (dK D_FP_addAd 20 rfl) rfl (leK rfl) (leK rfl) (leK rfl) (leK rfl) (leK rfl) (by obtain rfl := Option.some.inj h; exact KT_thr (e := 2) (by decide))
      · replace h := ifN h hc10
        refine g_iloadn (pc := 17) (i0 := 3) (j := 3) (dK D_FP_addAd 8 rfl) rfl rfl ?_
        refine bnE h (fun p3 e_p3 h => ?_)
        refine vg_cS (pc := 18) (As := [V a3]) (rest := []) (mc' := 0) (ms' := 0) (dK D_FP_addAd 9 rfl) K_FP_145 (fitK rfl) rfl (leK rfl) (leK rfl) (leK rfl) (tf_FP_isPrice ha3 e_p3) (kcB ?_)
        refine vg_ifB_eq (pc := 21) (b := p3) (t := 37) (dK D_FP_addAd 10 rfl) rfl (fun hc4 => ?_) (fun hc4 => ?_)
        · replace h := ifP h hc4
          refine g_iload (pc := 24) (j := 4) (dK D_FP_addAd 11 rfl) rfl ?_
          refine vg_if_lt (pc := 26) (t := 37) (dK D_FP_addAd 12 rfl) rfl ha4 (fun hc9 => ?_) (fun hc9 => ?_)
          · replace h := ifP h hc9
            exact vg_throw hfl (pc := 37) TH_FP_148_150 (dK D_FP_addAd 16 rfl) (dK D_FP_addAd 17 rfl) (dK D_FP_addAd 18 rfl) (dK D_FP_addAd 19 rfl) (dK D_FP_addAd 20 rfl) rfl (leK rfl) (leK rfl) (leK rfl) (leK rfl) (leK rfl) (by obtain rfl := Option.some.inj h; exact KT_thr (e := 2) (by decide))
          · replace h := ifN h hc9
            refine g_iload (pc := 29) (j := 4) (dK D_FP_addAd 13 rfl) rfl ?_
            refine vg_sipush (pc := 31) (dK D_FP_addAd 14 rfl) rfl ?_
            refine vg_icmp_le (pc := 34) (t := 47) (dK D_FP_addAd 15 rfl) rfl ha4 (inRk rfl) (fun hc8 => ?_) (fun hc8 => ?_)
            · replace h := ifP h hc8
              refine g_aloadn (pc := 47) (i0 := 0) (j := 0) (dK D_FP_addAd 21 rfl) rfl rfl ?_
              refine vg_getO (pc := 48) (ci := 10) (f := 3) (dK D_FP_addAd 22 rfl) q_425 hc0 (ltK rfl) (ltK rfl) rfl ?_
              refine vg_getO (pc := 51) (ci := 4) (f := 0) (dK D_FP_addAd 23 rfl) q_292 (hw_10_3 hc0) (ltK rfl) (ltK rfl) rfl ?_
              refine vg_getO (pc := 54) (ci := 8) (f := 0) (dK D_FP_addAd 24 rfl) q_224 (hw_4_0 (hw_10_3 hc0)) (ltK rfl) (ltK rfl) rfl ?_
              refine g_astore (pc := 57) (ls2 := [(5, .ref (tgt (tgt (tgt c0 3) 0) 0)), (0, .ref c0), (1, V a1), (2, V a2), (3, V a3), (4, V a4)]) (dK D_FP_addAd 25 rfl) (ltK rfl) rfl ?_
              refine g_aload (pc := 59) (j := 0) (dK D_FP_addAd 26 rfl) rfl ?_
              refine vg_getI (pc := 61) (ci := 0) (f := 7) (dK D_FP_addAd 27 rfl) q_109 (hw_8_0 (hw_4_0 (hw_10_3 hc0))) (ltK rfl) (ltK rfl) rfl ?_
              refine vg_bipush (pc := 64) (dK D_FP_addAd 28 rfl) rfl ?_
              refine vg_icmp_lt (pc := 66) (t := 72) (dK D_FP_addAd 29 rfl) rfl (g_in _ _ _) (inRk rfl) (fun hc7 => ?_) (fun hc7 => ?_)
              · replace h := ifP h hc7
                refine g_aloadn (pc := 72) (i0 := 0) (j := 1) (dK D_FP_addAd 32 rfl) rfl rfl ?_
                refine vg_getO (pc := 73) (ci := 10) (f := 4) (dK D_FP_addAd 33 rfl) q_426 hc0 (ltK rfl) (ltK rfl) rfl ?_
                refine g_aloadn (pc := 76) (i0 := 0) (j := 1) (dK D_FP_addAd 34 rfl) rfl rfl ?_
                refine vg_getO (pc := 77) (ci := 10) (f := 3) (dK D_FP_addAd 35 rfl) q_425 hc0 (ltK rfl) (ltK rfl) rfl ?_
                refine vg_getO (pc := 80) (ci := 4) (f := 0) (dK D_FP_addAd 36 rfl) q_292 (hw_10_3 hc0) (ltK rfl) (ltK rfl) rfl ?_
                refine bnE h (fun p5 e_p5 h => ?_)
                refine vg_cV (pc := 83) (As := [.ref (tgt (tgt c0 3) 0)]) (rest := []) (mc' := 0) (ms' := 0) (dK D_FP_addAd 37 rfl) K_FP_155 (fitK rfl) (ltK rfl) (hw_10_4 hc0) rfl (leK rfl) (leK rfl) (leK rfl) (tf_History_keep (hw_10_4 hc0) (hw_4_0 (hw_10_3 hc0)) e_p5) (kcU ?_)
                refine g_aload (pc := 86) (j := 0) (dK D_FP_addAd 38 rfl) rfl ?_
                refine g_iloadn (pc := 88) (i0 := 1) (j := 2) (dK D_FP_addAd 39 rfl) rfl rfl ?_
                refine g_iloadn (pc := 89) (i0 := 2) (j := 3) (dK D_FP_addAd 40 rfl) rfl rfl ?_
                refine g_iloadn (pc := 90) (i0 := 3) (j := 4) (dK D_FP_addAd 41 rfl) rfl rfl ?_
                refine g_iload (pc := 91) (j := 5) (dK D_FP_addAd 42 rfl) rfl ?_
                refine bnE h (fun p6 e_p6 h => ?_)
                refine vg_cV (pc := 93) (As := [V a1, V a2, V a3, V a4]) (rest := []) (mc' := 0) (ms' := 0) (dK D_FP_addAd 43 rfl) K_FP_158 (fitK rfl) (ltK rfl) (hw_8_0 (hw_4_0 (hw_10_3 hc0))) rfl (leK rfl) (leK rfl) (leK rfl) (tf_Ads_add (hw_8_0 (hw_4_0 (hw_10_3 hc0))) ha1 ha2 ha3 ha4 e_p6) (kcI (fun h_p6 => ?_))
                exact vg_iretI (pc := 96) (r := p6.1) (dK D_FP_addAd 44 rfl) rfl (leK rfl) (leK rfl) (xf hfl) (by obtain rfl := Option.some.inj h; exact KT_ok ⟨rfl, h_p6, rfl⟩)
              · replace h := ifN h hc7
                refine vg_bipush (pc := 69) (dK D_FP_addAd 30 rfl) rfl ?_
                exact vg_iretI (pc := 71) (r := (-2)) (dK D_FP_addAd 31 rfl) rfl (leK rfl) (leK rfl) (xf hfl) (by obtain rfl := Option.some.inj h; exact KT_ok ⟨rfl, (inRk rfl), rfl⟩)
            · replace h := ifN h hc8
              exact vg_throw hfl (pc := 37) TH_FP_148_150 (dK D_FP_addAd 16 rfl) (dK D_FP_addAd 17 rfl) (dK D_FP_addAd 18 rfl) (dK D_FP_addAd 19 rfl) (dK D_FP_addAd 20 rfl) rfl (leK rfl) (leK rfl) (leK rfl) (leK rfl) (leK rfl) (by obtain rfl := Option.some.inj h; exact KT_thr (e := 2) (by decide))
        · replace h := ifN h hc4
          exact vg_throw hfl (pc := 37) TH_FP_148_150 (dK D_FP_addAd 16 rfl) (dK D_FP_addAd 17 rfl) (dK D_FP_addAd 18 rfl) (dK D_FP_addAd 19 rfl) (dK D_FP_addAd 20 rfl) rfl (leK rfl) (leK rfl) (leK rfl) (leK rfl) (leK rfl) (by obtain rfl := Option.some.inj h; exact KT_thr (e := 2) (by decide))
  · replace h := ifN h hc2
    exact vg_throw hfl (pc := 37) TH_FP_148_150 (dK D_FP_addAd 16 rfl) (dK D_FP_addAd 17 rfl) (dK D_FP_addAd 18 rfl) (dK D_FP_addAd 19 rfl) (dK D_FP_addAd 20 rfl) rfl (leK rfl) (leK rfl) (leK rfl) (leK rfl) (leK rfl) (by obtain rfl := Option.some.inj h; exact KT_thr (e := 2) (by decide))
def fn_Law_addAd (c0 : Nat) (a1 : Int) (a2 : Int) (a3 : Int) (a4 : Int) (c5 : Nat) (S : St) : Option (Int × St) := bnO (fn_FP_addAd c0 a1 a2 a3 a4 S) fun p1 => if p1.1 = 0 then (nm (ul p1.2.2 c5 0 p1.2.1) fun S2 => some (0, S2)) else (if p1.1 = 2 then (some (1, p1.2.2)) else none)
theorem tf_Law_addAd {E : EV} {X : XT} (hfl : X.2.2.2 = false) {c0 : Nat} (hc0 : HC X 10 c0) {a1 : Int} (ha1 : inR a1) {a2 : Int} (ha2 : inR a2) {a3 : Int} (ha3 : inR a3) {a4 : Int} (ha4 : inR a4) {c5 : Nat} (hc5 : HA X 3 1 c5) {S : St} {q : Int × St} (h : fn_Law_addAd c0 a1 a2 a3 a4 c5 S = some q) : EvH E M_Law_addAd [.ref c0, V a1, V a2, V a3, V a4, .ref c5] (WX X S) 1 6 (KI X q.1 q.2) := by
  refine EvH.of pn_Law (leK rfl) ?_
  show Go E M_Law_addAd 1 6 0 [(0, .ref c0), (1, V a1), (2, V a2), (3, V a3), (4, V a4), (5, .ref c5)] [] (WX X S) 0 0 (KI X q.1 q.2)
  unfold fn_Law_addAd at h
  refine g_aload (pc := 0) (j := 5) (dK D_Law_addAd 0 rfl) rfl ?_
  refine vg_iconst (pc := 2) (dK D_Law_addAd 1 rfl) ?_
  refine g_aloadn (pc := 3) (i0 := 0) (j := 0) (dK D_Law_addAd 2 rfl) rfl rfl ?_
  refine g_iloadn (pc := 4) (i0 := 1) (j := 1) (dK D_Law_addAd 3 rfl) rfl rfl ?_
  refine g_iloadn (pc := 5) (i0 := 2) (j := 2) (dK D_Law_addAd 4 rfl) rfl rfl ?_
  refine g_iloadn (pc := 6) (i0 := 3) (j := 3) (dK D_Law_addAd 5 rfl) rfl rfl ?_
  refine g_iload (pc := 7) (j := 4) (dK D_Law_addAd 6 rfl) rfl ?_
  refine bnE h (fun p1 e_p1 h => ?_)
  refine vg_cVX hfl (pc := 9) (As := [V a1, V a2, V a3, V a4]) (rest := [V 0, .ref c5]) (mc' := 1) (ms' := 6) (dK D_Law_addAd 7 rfl) K_Law_7 (fitK rfl) (ltK rfl) hc0 rfl (leK rfl) (leK rfl) (leK rfl) (tf_FP_addAd hfl hc0 ha1 ha2 ha3 ha4 e_p1) (kxT hfl (fun he3 => kxI hfl (fun h_p1 => ?_)) (fun he3 => ?_))
  · replace h := ifP h he3
    refine vg_i2l (pc := 12) (dK D_Law_addAd 8 rfl) h_p1 ?_
    refine nmE h (fun S2 e_S2 h => ?_)
    refine vg_lastore (pc := 13) (z := p1.2.1) (dK D_Law_addAd 9 rfl) hc5 rfl ⟨by decide, by decide⟩ rfl e_S2 ?_
    refine g_goto (pc := 14) (tgt := 21) (dK D_Law_addAd 10 rfl) rfl ?_
    refine vg_iconst (pc := 21) (dK D_Law_addAd 14 rfl) ?_
    exact vg_iretI (pc := 22) (r := 0) (dK D_Law_addAd 15 rfl) rfl (leK rfl) (leK rfl) (xf hfl) (by obtain rfl := Option.some.inj h; exact ⟨rfl, (inRk rfl), rfl⟩)
  · replace h := ifN h he3
    by_cases hq4 : p1.1 = 2
    · have h := ifP h hq4
      rw [hq4]
      exact ⟨_, CT_Law_addAd_9_2, (by obtain rfl := Option.some.inj h; exact ⟨rfl, (inRk rfl), rfl⟩)⟩
    · replace h := ifN h hq4
      exact nomatch h
def fn_FP_needAd (c0 : Nat) (a1 : Int) (S : St) : Option (Nat) := if a1 < 0 then (some 1) else (if a1 < (g S (tgt (tgt (tgt c0 3) 0) 0) 7) then (some 0) else (some 1))
theorem tf_FP_needAd {E : EV} {X : XT} (hfl : X.2.2.2 = false) {c0 : Nat} (hc0 : HC X 10 c0) {a1 : Int} (ha1 : inR a1) {S : St} {q : Nat} (h : fn_FP_needAd c0 a1 S = some q) : Ev E M_FP_needAd [.ref c0, V a1] (WX X S) 1 6 (KT X q S (KU X S)) := by
  refine Ev.of pn_FP rfl (leK rfl) ?_
  show Go E M_FP_needAd 1 6 0 [(0, .ref c0), (1, V a1)] [] (WX X S) 0 0 (KT X q S (KU X S))
  unfold fn_FP_needAd at h
  refine g_iloadn (pc := 0) (i0 := 1) (j := 1) (dK D_FP_needAd 0 rfl) rfl rfl ?_
  refine vg_if_lt (pc := 1) (t := 21) (dK D_FP_needAd 1 rfl) rfl ha1 (fun hc2 => ?_) (fun hc2 => ?_)
  · replace h := ifP h hc2
    exact vg_throwW hfl (pc := 21) TH_FP_363_365 (dK D_FP_needAd 9 rfl) (dK D_FP_needAd 10 rfl) (dK D_FP_needAd 11 rfl) (dK D_FP_needAd 12 rfl) (dK D_FP_needAd 13 rfl) rfl (leK rfl) (leK rfl) (leK rfl) (leK rfl) (leK rfl) (by obtain rfl := Option.some.inj h; exact KT_thr (e := 1) (by decide))
  · replace h := ifN h hc2
    refine g_iloadn (pc := 4) (i0 := 1) (j := 1) (dK D_FP_needAd 2 rfl) rfl rfl ?_
    refine g_aloadn (pc := 5) (i0 := 0) (j := 0) (dK D_FP_needAd 3 rfl) rfl rfl ?_
    refine vg_getO (pc := 6) (ci := 10) (f := 3) (dK D_FP_needAd 4 rfl) q_425 hc0 (ltK rfl) (ltK rfl) rfl ?_
    refine vg_getO (pc := 9) (ci := 4) (f := 0) (dK D_FP_needAd 5 rfl) q_292 (hw_10_3 hc0) (ltK rfl) (ltK rfl) rfl ?_
    refine vg_getO (pc := 12) (ci := 8) (f := 0) (dK D_FP_needAd 6 rfl) q_224 (hw_4_0 (hw_10_3 hc0)) (ltK rfl) (ltK rfl) rfl ?_
    refine vg_getI (pc := 15) (ci := 0) (f := 7) (dK D_FP_needAd 7 rfl) q_109 (hw_8_0 (hw_4_0 (hw_10_3 hc0))) (ltK rfl) (ltK rfl) rfl ?_
    refine vg_icmp_lt (pc := 18) (t := 32) (dK D_FP_needAd 8 rfl) rfl ha1 (g_in _ _ _) (fun hc1 => ?_) (fun hc1 => ?_)
    · replace h := ifP h hc1
      exact g_return (pc := 32) (dK D_FP_needAd 14 rfl) rfl (leK rfl) (leK rfl) (xf hfl) (by obtain rfl := Option.some.inj h; exact KT_ok ⟨rfl, rfl⟩)
    · replace h := ifN h hc1
      exact vg_throwW hfl (pc := 21) TH_FP_363_365 (dK D_FP_needAd 9 rfl) (dK D_FP_needAd 10 rfl) (dK D_FP_needAd 11 rfl) (dK D_FP_needAd 12 rfl) (dK D_FP_needAd 13 rfl) rfl (leK rfl) (leK rfl) (leK rfl) (leK rfl) (leK rfl) (by obtain rfl := Option.some.inj h; exact KT_thr (e := 1) (by decide))
def fn_FP_setAd (c0 : Nat) (a1 : Int) (a2 : Int) (a3 : Int) (S : St) : Option (Nat × Bool × St) := bnO (fn_FP_needAd c0 a1 S) fun p1 => if p1 = 0 then (if a3 < 0 then (some (2, false, S)) else (if a3 ≤ 2 then (if 0 ≤ a1 ∧ a1 < 40 then (if (g S (tgt (tgt (tgt (tgt c0 3) 0) 0) 6) a1.toNat) = 0 then (bnO (fn_History_keep (tgt c0 4) (tgt (tgt c0 3) 0) S) fun p3 => if a2 = 0 then (nm (u p3 (tgt (tgt (tgt (tgt c0 3) 0) 0) 2) a1.toNat 0) fun S4 => nm (u S4 (tgt (tgt (tgt (tgt c0 3) 0) 0) 3) a1.toNat a3) fun S5 => some (0, true, S5)) else (nm (u p3 (tgt (tgt (tgt (tgt c0 3) 0) 0) 2) a1.toNat 1) fun S6 => nm (u S6 (tgt (tgt (tgt (tgt c0 3) 0) 0) 3) a1.toNat a3) fun S7 => some (0, true, S7))) else (some (0, false, S))) else none) else (some (2, false, S)))) else (some (p1, false, S))
theorem tf_FP_setAd {E : EV} {X : XT} (hfl : X.2.2.2 = false) {c0 : Nat} (hc0 : HC X 10 c0) {a1 : Int} (ha1 : inR a1) {a2 : Int} (ha2 : inR a2) {a3 : Int} (ha3 : inR a3) {S : St} {q : Nat × Bool × St} (h : fn_FP_setAd c0 a1 a2 a3 S = some q) : Ev E M_FP_setAd [.ref c0, V a1, V a2, V a3] (WX X S) 2 12 (KT X q.1 q.2.2 (KB X q.2.1 q.2.2)) := by
  refine Ev.of pn_FP rfl (leK rfl) ?_
  show Go E M_FP_setAd 2 12 0 [(0, .ref c0), (1, V a1), (2, V a2), (3, V a3)] [] (WX X S) 0 0 (KT X q.1 q.2.2 (KB X q.2.1 q.2.2))
  unfold fn_FP_setAd at h
  refine g_aloadn (pc := 0) (i0 := 0) (j := 0) (dK D_FP_setAd 0 rfl) rfl rfl ?_
  refine g_iloadn (pc := 1) (i0 := 1) (j := 1) (dK D_FP_setAd 1 rfl) rfl rfl ?_
  refine bnE h (fun p1 e_p1 h => ?_)
  refine vg_cV (pc := 2) (As := [V a1]) (rest := []) (mc' := 1) (ms' := 6) (dK D_FP_setAd 2 rfl) K_FP_162 (fitK rfl) (ltK rfl) hc0 rfl (leK rfl) (leK rfl) (leK rfl) (tf_FP_needAd hfl hc0 ha1 e_p1) (kcT hfl (fun he12 => kcU ?_) (fun he12 => ⟨rfl, ?_⟩))
  · replace h := ifP h he12
    refine g_iloadn (pc := 5) (i0 := 3) (j := 3) (dK D_FP_setAd 3 rfl) rfl rfl ?_
    refine vg_if_lt (pc := 6) (t := 14) (dK D_FP_setAd 4 rfl) rfl ha3 (fun hc11 => ?_) (fun hc11 => ?_)
    · replace h := ifP h hc11
      exact vg_throw hfl (pc := 14) TH_FP_148_165 (dK D_FP_setAd 8 rfl) (dK D_FP_setAd 9 rfl) (dK D_FP_setAd 10 rfl) (dK D_FP_setAd 11 rfl) (dK D_FP_setAd 12 rfl) rfl (leK rfl) (leK rfl) (leK rfl) (leK rfl) (leK rfl) (by obtain rfl := Option.some.inj h; exact KT_thr (e := 2) (by decide))
    · replace h := ifN h hc11
      refine g_iloadn (pc := 9) (i0 := 3) (j := 3) (dK D_FP_setAd 5 rfl) rfl rfl ?_
      refine vg_iconst (pc := 10) (dK D_FP_setAd 6 rfl) ?_
      refine vg_icmp_le (pc := 11) (t := 24) (dK D_FP_setAd 7 rfl) rfl ha3 (inRk rfl) (fun hc10 => ?_) (fun hc10 => ?_)
      · replace h := ifP h hc10
        refine g_aloadn (pc := 24) (i0 := 0) (j := 0) (dK D_FP_setAd 13 rfl) rfl rfl ?_
        refine vg_getO (pc := 25) (ci := 10) (f := 3) (dK D_FP_setAd 14 rfl) q_425 hc0 (ltK rfl) (ltK rfl) rfl ?_
        refine vg_getO (pc := 28) (ci := 4) (f := 0) (dK D_FP_setAd 15 rfl) q_292 (hw_10_3 hc0) (ltK rfl) (ltK rfl) rfl ?_
        refine vg_getO (pc := 31) (ci := 8) (f := 0) (dK D_FP_setAd 16 rfl) q_224 (hw_4_0 (hw_10_3 hc0)) (ltK rfl) (ltK rfl) rfl ?_
        refine g_astore (pc := 34) (ls2 := [(4, .ref (tgt (tgt (tgt c0 3) 0) 0)), (0, .ref c0), (1, V a1), (2, V a2), (3, V a3)]) (dK D_FP_setAd 17 rfl) (ltK rfl) rfl ?_
        refine g_aload (pc := 36) (j := 0) (dK D_FP_setAd 18 rfl) rfl ?_
        refine vg_getA (pc := 38) (ci := 0) (f := 6) (dK D_FP_setAd 19 rfl) q_103 (hw_8_0 (hw_4_0 (hw_10_3 hc0))) (ltK rfl) (ltK rfl) rfl ?_
        refine g_iloadn (pc := 41) (i0 := 1) (j := 2) (dK D_FP_setAd 20 rfl) rfl rfl ?_
        refine gdE h (fun hi2 h => ?_)
        refine vg_iaload (pc := 42) (j := a1.toNat) (dK D_FP_setAd 21 rfl) (hw_0_6 (hw_8_0 (hw_4_0 (hw_10_3 hc0)))) rfl hi2 rfl ?_
        refine vg_if_eq (pc := 43) (t := 48) (dK D_FP_setAd 22 rfl) rfl (g_in _ _ _) (fun hc9 => ?_) (fun hc9 => ?_)
        · replace h := ifP h hc9
          refine g_aloadn (pc := 48) (i0 := 0) (j := 1) (dK D_FP_setAd 25 rfl) rfl rfl ?_
          refine vg_getO (pc := 49) (ci := 10) (f := 4) (dK D_FP_setAd 26 rfl) q_426 hc0 (ltK rfl) (ltK rfl) rfl ?_
          refine g_aloadn (pc := 52) (i0 := 0) (j := 1) (dK D_FP_setAd 27 rfl) rfl rfl ?_
          refine vg_getO (pc := 53) (ci := 10) (f := 3) (dK D_FP_setAd 28 rfl) q_425 hc0 (ltK rfl) (ltK rfl) rfl ?_
          refine vg_getO (pc := 56) (ci := 4) (f := 0) (dK D_FP_setAd 29 rfl) q_292 (hw_10_3 hc0) (ltK rfl) (ltK rfl) rfl ?_
          refine bnE h (fun p3 e_p3 h => ?_)
          refine vg_cV (pc := 59) (As := [.ref (tgt (tgt c0 3) 0)]) (rest := []) (mc' := 0) (ms' := 0) (dK D_FP_setAd 30 rfl) K_FP_155 (fitK rfl) (ltK rfl) (hw_10_4 hc0) rfl (leK rfl) (leK rfl) (leK rfl) (tf_History_keep (hw_10_4 hc0) (hw_4_0 (hw_10_3 hc0)) e_p3) (kcU ?_)
          refine g_aload (pc := 62) (j := 0) (dK D_FP_setAd 31 rfl) rfl ?_
          refine vg_getA (pc := 64) (ci := 0) (f := 2) (dK D_FP_setAd 32 rfl) q_85 (hw_8_0 (hw_4_0 (hw_10_3 hc0))) (ltK rfl) (ltK rfl) rfl ?_
          refine g_iloadn (pc := 67) (i0 := 1) (j := 2) (dK D_FP_setAd 33 rfl) rfl rfl ?_
          refine g_iloadn (pc := 68) (i0 := 2) (j := 3) (dK D_FP_setAd 34 rfl) rfl rfl ?_
          refine vg_if_eq (pc := 69) (t := 76) (dK D_FP_setAd 35 rfl) rfl ha2 (fun hc8 => ?_) (fun hc8 => ?_)
          · replace h := ifP h hc8
            refine vg_iconst (pc := 76) (dK D_FP_setAd 38 rfl) ?_
            refine nmE h (fun S4 e_S4 h => ?_)
            refine vg_iastore (pc := 77) (z := 0) (dK D_FP_setAd 39 rfl) (hw_0_2 (hw_8_0 (hw_4_0 (hw_10_3 hc0)))) rfl hi2 rfl e_S4 ?_
            refine g_aload (pc := 78) (j := 0) (dK D_FP_setAd 40 rfl) rfl ?_
            refine vg_getA (pc := 80) (ci := 0) (f := 3) (dK D_FP_setAd 41 rfl) q_90 (hw_8_0 (hw_4_0 (hw_10_3 hc0))) (ltK rfl) (ltK rfl) rfl ?_
            refine g_iloadn (pc := 83) (i0 := 1) (j := 2) (dK D_FP_setAd 42 rfl) rfl rfl ?_
            refine g_iloadn (pc := 84) (i0 := 3) (j := 4) (dK D_FP_setAd 43 rfl) rfl rfl ?_
            refine nmE h (fun S5 e_S5 h => ?_)
            refine vg_iastore (pc := 85) (z := a3) (dK D_FP_setAd 44 rfl) (hw_0_3 (hw_8_0 (hw_4_0 (hw_10_3 hc0)))) rfl hi2 rfl e_S5 ?_
            refine vg_iconst (pc := 86) (dK D_FP_setAd 45 rfl) ?_
            exact vg_iretB (pc := 87) (b := true) (dK D_FP_setAd 46 rfl) rfl (leK rfl) (leK rfl) (xf hfl) (by obtain rfl := Option.some.inj h; exact KT_ok ⟨rfl, rfl⟩)
          · replace h := ifN h hc8
            refine vg_iconst (pc := 72) (dK D_FP_setAd 36 rfl) ?_
            refine g_goto (pc := 73) (tgt := 77) (dK D_FP_setAd 37 rfl) rfl ?_
            refine nmE h (fun S6 e_S6 h => ?_)
            refine vg_iastore (pc := 77) (z := 1) (dK D_FP_setAd 39 rfl) (hw_0_2 (hw_8_0 (hw_4_0 (hw_10_3 hc0)))) rfl hi2 rfl e_S6 ?_
            refine g_aload (pc := 78) (j := 0) (dK D_FP_setAd 40 rfl) rfl ?_
            refine vg_getA (pc := 80) (ci := 0) (f := 3) (dK D_FP_setAd 41 rfl) q_90 (hw_8_0 (hw_4_0 (hw_10_3 hc0))) (ltK rfl) (ltK rfl) rfl ?_
            refine g_iloadn (pc := 83) (i0 := 1) (j := 2) (dK D_FP_setAd 42 rfl) rfl rfl ?_
            refine g_iloadn (pc := 84) (i0 := 3) (j := 4) (dK D_FP_setAd 43 rfl) rfl rfl ?_
            refine nmE h (fun S7 e_S7 h => ?_)
            refine vg_iastore (pc := 85) (z := a3) (dK D_FP_setAd 44 rfl) (hw_0_3 (hw_8_0 (hw_4_0 (hw_10_3 hc0)))) rfl hi2 rfl e_S7 ?_
            refine vg_iconst (pc := 86) (dK D_FP_setAd 45 rfl) ?_
            exact vg_iretB (pc := 87) (b := true) (dK D_FP_setAd 46 rfl) rfl (leK rfl) (leK rfl) (xf hfl) (by obtain rfl := Option.some.inj h; exact KT_ok ⟨rfl, rfl⟩)
        · replace h := ifN h hc9
          refine vg_iconst (pc := 46) (dK D_FP_setAd 23 rfl) ?_
          exact vg_iretB (pc := 47) (b := false) (dK D_FP_setAd 24 rfl) rfl (leK rfl) (leK rfl) (xf hfl) (by obtain rfl := Option.some.inj h; exact KT_ok ⟨rfl, rfl⟩)
      · replace h := ifN h hc10
        exact vg_throw hfl (pc := 14) TH_FP_148_165 (dK D_FP_setAd 8 rfl) (dK D_FP_setAd 9 rfl) (dK D_FP_setAd 10 rfl) (dK D_FP_setAd 11 rfl) (dK D_FP_setAd 12 rfl) rfl (leK rfl) (leK rfl) (leK rfl) (leK rfl) (leK rfl) (by obtain rfl := Option.some.inj h; exact KT_thr (e := 2) (by decide))
  · replace h := ifN h he12
    obtain rfl := Option.some.inj h
    exact KT_thr he12
def fn_Law_setAd (c0 : Nat) (a1 : Int) (a2 : Int) (a3 : Int) (c4 : Nat) (S : St) : Option (Int × St) := bnO (fn_FP_setAd c0 a1 a2 a3 S) fun p1 => if p1.1 = 0 then (if p1.2.1 = true then (nm (ul p1.2.2 c4 0 1) fun S4 => some (0, S4)) else (nm (ul p1.2.2 c4 0 0) fun S3 => some (0, S3))) else (if p1.1 = 1 then (some (1, p1.2.2)) else (if p1.1 = 2 then (some (2, p1.2.2)) else none))
theorem tf_Law_setAd {E : EV} {X : XT} (hfl : X.2.2.2 = false) {c0 : Nat} (hc0 : HC X 10 c0) {a1 : Int} (ha1 : inR a1) {a2 : Int} (ha2 : inR a2) {a3 : Int} (ha3 : inR a3) {c4 : Nat} (hc4 : HA X 3 1 c4) {S : St} {q : Int × St} (h : fn_Law_setAd c0 a1 a2 a3 c4 S = some q) : EvH E M_Law_setAd [.ref c0, V a1, V a2, V a3, .ref c4] (WX X S) 2 12 (KI X q.1 q.2) := by
  refine EvH.of pn_Law (leK rfl) ?_
  show Go E M_Law_setAd 2 12 0 [(0, .ref c0), (1, V a1), (2, V a2), (3, V a3), (4, .ref c4)] [] (WX X S) 0 0 (KI X q.1 q.2)
  unfold fn_Law_setAd at h
  refine g_aload (pc := 0) (j := 4) (dK D_Law_setAd 0 rfl) rfl ?_
  refine vg_iconst (pc := 2) (dK D_Law_setAd 1 rfl) ?_
  refine g_aloadn (pc := 3) (i0 := 0) (j := 0) (dK D_Law_setAd 2 rfl) rfl rfl ?_
  refine g_iloadn (pc := 4) (i0 := 1) (j := 1) (dK D_Law_setAd 3 rfl) rfl rfl ?_
  refine g_iloadn (pc := 5) (i0 := 2) (j := 2) (dK D_Law_setAd 4 rfl) rfl rfl ?_
  refine g_iloadn (pc := 6) (i0 := 3) (j := 3) (dK D_Law_setAd 5 rfl) rfl rfl ?_
  refine bnE h (fun p1 e_p1 h => ?_)
  refine vg_cVX hfl (pc := 7) (As := [V a1, V a2, V a3]) (rest := [V 0, .ref c4]) (mc' := 2) (ms' := 12) (dK D_Law_setAd 6 rfl) K_Law_15 (fitK rfl) (ltK rfl) hc0 rfl (leK rfl) (leK rfl) (leK rfl) (tf_FP_setAd hfl hc0 ha1 ha2 ha3 e_p1) (kxT hfl (fun he5 => kxB hfl ?_) (fun he5 => ?_))
  · replace h := ifP h he5
    refine vg_ifB_eq (pc := 10) (b := p1.2.1) (t := 17) (dK D_Law_setAd 7 rfl) rfl (fun hc2 => ?_) (fun hc2 => ?_)
    · replace h := ifP h hc2
      refine vg_lconst (pc := 13) (y := 1) (dK D_Law_setAd 8 rfl) rfl ?_
      refine g_goto (pc := 14) (tgt := 18) (dK D_Law_setAd 9 rfl) rfl ?_
      refine nmE h (fun S4 e_S4 h => ?_)
      refine vg_lastore (pc := 18) (z := 1) (dK D_Law_setAd 11 rfl) hc4 rfl ⟨by decide, by decide⟩ rfl e_S4 ?_
      refine g_goto (pc := 19) (tgt := 30) (dK D_Law_setAd 12 rfl) rfl ?_
      refine vg_iconst (pc := 30) (dK D_Law_setAd 19 rfl) ?_
      exact vg_iretI (pc := 31) (r := 0) (dK D_Law_setAd 20 rfl) rfl (leK rfl) (leK rfl) (xf hfl) (by obtain rfl := Option.some.inj h; exact ⟨rfl, (inRk rfl), rfl⟩)
    · replace h := ifN h hc2
      refine vg_lconst (pc := 17) (y := 0) (dK D_Law_setAd 10 rfl) rfl ?_
      refine nmE h (fun S3 e_S3 h => ?_)
      refine vg_lastore (pc := 18) (z := 0) (dK D_Law_setAd 11 rfl) hc4 rfl ⟨by decide, by decide⟩ rfl e_S3 ?_
      refine g_goto (pc := 19) (tgt := 30) (dK D_Law_setAd 12 rfl) rfl ?_
      refine vg_iconst (pc := 30) (dK D_Law_setAd 19 rfl) ?_
      exact vg_iretI (pc := 31) (r := 0) (dK D_Law_setAd 20 rfl) rfl (leK rfl) (leK rfl) (xf hfl) (by obtain rfl := Option.some.inj h; exact ⟨rfl, (inRk rfl), rfl⟩)
  · replace h := ifN h he5
    by_cases hq7 : p1.1 = 1
    · have h := ifP h hq7
      rw [hq7]
      exact ⟨_, CT_Law_setAd_7_1, (by obtain rfl := Option.some.inj h; exact ⟨rfl, (inRk rfl), rfl⟩)⟩
    · replace h := ifN h hq7
      by_cases hq6 : p1.1 = 2
      · have h := ifP h hq6
        rw [hq6]
        exact ⟨_, CT_Law_setAd_7_2, (by obtain rfl := Option.some.inj h; exact ⟨rfl, (inRk rfl), rfl⟩)⟩
      · replace h := ifN h hq6
        exact nomatch h
def fn_FP_setPrice (c0 : Nat) (a1 : Int) (a2 : Int) (S : St) : Option (Nat × Int × St) := bnO (fn_FP_needAd c0 a1 S) fun p1 => if p1 = 0 then (bnO (fn_FP_isPrice a2 S) fun p2 => if p2 = true then (bnO (fn_History_keep (tgt c0 4) (tgt (tgt c0 3) 0) S) fun p4 => if 0 ≤ a1 ∧ a1 < 40 then (nm (u p4 (tgt (tgt (tgt (tgt c0 3) 0) 0) 4) a1.toNat a2) fun S6 => some (0, (g p4 (tgt (tgt (tgt (tgt c0 3) 0) 0) 4) a1.toNat), S6)) else none) else (some (2, 0, S))) else (some (p1, 0, S))
theorem tf_FP_setPrice {E : EV} {X : XT} (hfl : X.2.2.2 = false) {c0 : Nat} (hc0 : HC X 10 c0) {a1 : Int} (ha1 : inR a1) {a2 : Int} (ha2 : inR a2) {S : St} {q : Nat × Int × St} (h : fn_FP_setPrice c0 a1 a2 S = some q) : Ev E M_FP_setPrice [.ref c0, V a1, V a2] (WX X S) 2 12 (KT X q.1 q.2.2 (KI X q.2.1 q.2.2)) := by
  refine Ev.of pn_FP rfl (leK rfl) ?_
  show Go E M_FP_setPrice 2 12 0 [(0, .ref c0), (1, V a1), (2, V a2)] [] (WX X S) 0 0 (KT X q.1 q.2.2 (KI X q.2.1 q.2.2))
  unfold fn_FP_setPrice at h
  refine g_aloadn (pc := 0) (i0 := 0) (j := 0) (dK D_FP_setPrice 0 rfl) rfl rfl ?_
  refine g_iloadn (pc := 1) (i0 := 1) (j := 1) (dK D_FP_setPrice 1 rfl) rfl rfl ?_
  refine bnE h (fun p1 e_p1 h => ?_)
  refine vg_cV (pc := 2) (As := [V a1]) (rest := []) (mc' := 1) (ms' := 6) (dK D_FP_setPrice 2 rfl) K_FP_162 (fitK rfl) (ltK rfl) hc0 rfl (leK rfl) (leK rfl) (leK rfl) (tf_FP_needAd hfl hc0 ha1 e_p1) (kcT hfl (fun he7 => kcU ?_) (fun he7 => ⟨rfl, ?_⟩))
  · replace h := ifP h he7
    refine g_iloadn (pc := 5) (i0 := 2) (j := 2) (dK D_FP_setPrice 3 rfl) rfl rfl ?_
    refine bnE h (fun p2 e_p2 h => ?_)
    refine vg_cS (pc := 6) (As := [V a2]) (rest := []) (mc' := 0) (ms' := 0) (dK D_FP_setPrice 4 rfl) K_FP_145 (fitK rfl) rfl (leK rfl) (leK rfl) (leK rfl) (tf_FP_isPrice ha2 e_p2) (kcB ?_)
    refine vg_ifB_ne (pc := 9) (b := p2) (t := 22) (dK D_FP_setPrice 5 rfl) rfl (fun hc3 => ?_) (fun hc3 => ?_)
    · replace h := ifP h hc3
      refine g_aloadn (pc := 22) (i0 := 0) (j := 0) (dK D_FP_setPrice 11 rfl) rfl rfl ?_
      refine vg_getO (pc := 23) (ci := 10) (f := 4) (dK D_FP_setPrice 12 rfl) q_426 hc0 (ltK rfl) (ltK rfl) rfl ?_
      refine g_aloadn (pc := 26) (i0 := 0) (j := 0) (dK D_FP_setPrice 13 rfl) rfl rfl ?_
      refine vg_getO (pc := 27) (ci := 10) (f := 3) (dK D_FP_setPrice 14 rfl) q_425 hc0 (ltK rfl) (ltK rfl) rfl ?_
      refine vg_getO (pc := 30) (ci := 4) (f := 0) (dK D_FP_setPrice 15 rfl) q_292 (hw_10_3 hc0) (ltK rfl) (ltK rfl) rfl ?_
      refine bnE h (fun p4 e_p4 h => ?_)
      refine vg_cV (pc := 33) (As := [.ref (tgt (tgt c0 3) 0)]) (rest := []) (mc' := 0) (ms' := 0) (dK D_FP_setPrice 16 rfl) K_FP_155 (fitK rfl) (ltK rfl) (hw_10_4 hc0) rfl (leK rfl) (leK rfl) (leK rfl) (tf_History_keep (hw_10_4 hc0) (hw_4_0 (hw_10_3 hc0)) e_p4) (kcU ?_)
      refine g_aloadn (pc := 36) (i0 := 0) (j := 0) (dK D_FP_setPrice 17 rfl) rfl rfl ?_
      refine vg_getO (pc := 37) (ci := 10) (f := 3) (dK D_FP_setPrice 18 rfl) q_425 hc0 (ltK rfl) (ltK rfl) rfl ?_
      refine vg_getO (pc := 40) (ci := 4) (f := 0) (dK D_FP_setPrice 19 rfl) q_292 (hw_10_3 hc0) (ltK rfl) (ltK rfl) rfl ?_
      refine vg_getO (pc := 43) (ci := 8) (f := 0) (dK D_FP_setPrice 20 rfl) q_224 (hw_4_0 (hw_10_3 hc0)) (ltK rfl) (ltK rfl) rfl ?_
      refine vg_getA (pc := 46) (ci := 0) (f := 4) (dK D_FP_setPrice 21 rfl) q_94 (hw_8_0 (hw_4_0 (hw_10_3 hc0))) (ltK rfl) (ltK rfl) rfl ?_
      refine g_iloadn (pc := 49) (i0 := 1) (j := 1) (dK D_FP_setPrice 22 rfl) rfl rfl ?_
      refine gdE h (fun hi5 h => ?_)
      refine vg_iaload (pc := 50) (j := a1.toNat) (dK D_FP_setPrice 23 rfl) (hw_0_4 (hw_8_0 (hw_4_0 (hw_10_3 hc0)))) rfl hi5 rfl ?_
      refine g_istoren (pc := 51) (i0 := 3) (ls2 := [(3, V (g p4 (tgt (tgt (tgt (tgt c0 3) 0) 0) 4) a1.toNat)), (0, .ref c0), (1, V a1), (2, V a2)]) (dK D_FP_setPrice 24 rfl) rfl (ltK rfl) rfl ?_
      refine g_aloadn (pc := 52) (i0 := 0) (j := 1) (dK D_FP_setPrice 25 rfl) rfl rfl ?_
      refine vg_getO (pc := 53) (ci := 10) (f := 3) (dK D_FP_setPrice 26 rfl) q_425 hc0 (ltK rfl) (ltK rfl) rfl ?_
      refine vg_getO (pc := 56) (ci := 4) (f := 0) (dK D_FP_setPrice 27 rfl) q_292 (hw_10_3 hc0) (ltK rfl) (ltK rfl) rfl ?_
      refine vg_getO (pc := 59) (ci := 8) (f := 0) (dK D_FP_setPrice 28 rfl) q_224 (hw_4_0 (hw_10_3 hc0)) (ltK rfl) (ltK rfl) rfl ?_
      refine vg_getA (pc := 62) (ci := 0) (f := 4) (dK D_FP_setPrice 29 rfl) q_94 (hw_8_0 (hw_4_0 (hw_10_3 hc0))) (ltK rfl) (ltK rfl) rfl ?_
      refine g_iloadn (pc := 65) (i0 := 1) (j := 2) (dK D_FP_setPrice 30 rfl) rfl rfl ?_
      refine g_iloadn (pc := 66) (i0 := 2) (j := 3) (dK D_FP_setPrice 31 rfl) rfl rfl ?_
      refine nmE h (fun S6 e_S6 h => ?_)
      refine vg_iastore (pc := 67) (z := a2) (dK D_FP_setPrice 32 rfl) (hw_0_4 (hw_8_0 (hw_4_0 (hw_10_3 hc0)))) rfl hi5 rfl e_S6 ?_
      refine g_iloadn (pc := 68) (i0 := 3) (j := 0) (dK D_FP_setPrice 33 rfl) rfl rfl ?_
      exact vg_iretI (pc := 69) (r := (g p4 (tgt (tgt (tgt (tgt c0 3) 0) 0) 4) a1.toNat)) (dK D_FP_setPrice 34 rfl) rfl (leK rfl) (leK rfl) (xf hfl) (by obtain rfl := Option.some.inj h; exact KT_ok ⟨rfl, (g_in _ _ _), rfl⟩)
    · replace h := ifN h hc3
      exact vg_throw hfl (pc := 12) TH_FP_148_171 (dK D_FP_setPrice 6 rfl) (dK D_FP_setPrice 7 rfl) (dK D_FP_setPrice 8 rfl) (dK D_FP_setPrice 9 rfl) (dK D_FP_setPrice 10 rfl) rfl (leK rfl) (leK rfl) (leK rfl) (leK rfl) (leK rfl) (by obtain rfl := Option.some.inj h; exact KT_thr (e := 2) (by decide))
  · replace h := ifN h he7
    obtain rfl := Option.some.inj h
    exact KT_thr he7
def fn_Law_setPrice (c0 : Nat) (a1 : Int) (a2 : Int) (c3 : Nat) (S : St) : Option (Int × St) := bnO (fn_FP_setPrice c0 a1 a2 S) fun p1 => if p1.1 = 0 then (nm (ul p1.2.2 c3 0 p1.2.1) fun S2 => some (0, S2)) else (if p1.1 = 1 then (some (1, p1.2.2)) else (if p1.1 = 2 then (some (2, p1.2.2)) else none))
theorem tf_Law_setPrice {E : EV} {X : XT} (hfl : X.2.2.2 = false) {c0 : Nat} (hc0 : HC X 10 c0) {a1 : Int} (ha1 : inR a1) {a2 : Int} (ha2 : inR a2) {c3 : Nat} (hc3 : HA X 3 1 c3) {S : St} {q : Int × St} (h : fn_Law_setPrice c0 a1 a2 c3 S = some q) : EvH E M_Law_setPrice [.ref c0, V a1, V a2, .ref c3] (WX X S) 2 12 (KI X q.1 q.2) := by
  refine EvH.of pn_Law (leK rfl) ?_
  show Go E M_Law_setPrice 2 12 0 [(0, .ref c0), (1, V a1), (2, V a2), (3, .ref c3)] [] (WX X S) 0 0 (KI X q.1 q.2)
  unfold fn_Law_setPrice at h
  refine g_aloadn (pc := 0) (i0 := 3) (j := 3) (dK D_Law_setPrice 0 rfl) rfl rfl ?_
  refine vg_iconst (pc := 1) (dK D_Law_setPrice 1 rfl) ?_
  refine g_aloadn (pc := 2) (i0 := 0) (j := 0) (dK D_Law_setPrice 2 rfl) rfl rfl ?_
  refine g_iloadn (pc := 3) (i0 := 1) (j := 1) (dK D_Law_setPrice 3 rfl) rfl rfl ?_
  refine g_iloadn (pc := 4) (i0 := 2) (j := 2) (dK D_Law_setPrice 4 rfl) rfl rfl ?_
  refine bnE h (fun p1 e_p1 h => ?_)
  refine vg_cVX hfl (pc := 5) (As := [V a1, V a2]) (rest := [V 0, .ref c3]) (mc' := 2) (ms' := 12) (dK D_Law_setPrice 5 rfl) K_Law_21 (fitK rfl) (ltK rfl) hc0 rfl (leK rfl) (leK rfl) (leK rfl) (tf_FP_setPrice hfl hc0 ha1 ha2 e_p1) (kxT hfl (fun he3 => kxI hfl (fun h_p1 => ?_)) (fun he3 => ?_))
  · replace h := ifP h he3
    refine vg_i2l (pc := 8) (dK D_Law_setPrice 6 rfl) h_p1 ?_
    refine nmE h (fun S2 e_S2 h => ?_)
    refine vg_lastore (pc := 9) (z := p1.2.1) (dK D_Law_setPrice 7 rfl) hc3 rfl ⟨by decide, by decide⟩ rfl e_S2 ?_
    refine g_goto (pc := 10) (tgt := 21) (dK D_Law_setPrice 8 rfl) rfl ?_
    refine vg_iconst (pc := 21) (dK D_Law_setPrice 15 rfl) ?_
    exact vg_iretI (pc := 22) (r := 0) (dK D_Law_setPrice 16 rfl) rfl (leK rfl) (leK rfl) (xf hfl) (by obtain rfl := Option.some.inj h; exact ⟨rfl, (inRk rfl), rfl⟩)
  · replace h := ifN h he3
    by_cases hq5 : p1.1 = 1
    · have h := ifP h hq5
      rw [hq5]
      exact ⟨_, CT_Law_setPrice_5_1, (by obtain rfl := Option.some.inj h; exact ⟨rfl, (inRk rfl), rfl⟩)⟩
    · replace h := ifN h hq5
      by_cases hq4 : p1.1 = 2
      · have h := ifP h hq4
        rw [hq4]
        exact ⟨_, CT_Law_setPrice_5_2, (by obtain rfl := Option.some.inj h; exact ⟨rfl, (inRk rfl), rfl⟩)⟩
      · replace h := ifN h hq4
        exact nomatch h
def fn_FP_orNone (a0 : Int) (S : St) : Option (Int) := if a0 = 0 then (some (-1)) else (some a0)
theorem tf_FP_orNone {E : EV} {X : XT} {a0 : Int} (ha0 : inR a0) {S : St} {q : Int} (h : fn_FP_orNone a0 S = some q) : Ev E M_FP_orNone [V a0] (WX X S) 0 0 (KI X q S) := by
  refine Ev.of pn_FP rfl (leK rfl) ?_
  show Go E M_FP_orNone 0 0 0 [(0, V a0)] [] (WX X S) 0 0 (KI X q S)
  unfold fn_FP_orNone at h
  refine g_iloadn (pc := 0) (i0 := 0) (j := 0) (dK D_FP_orNone 0 rfl) rfl rfl ?_
  refine vg_if_ne (pc := 1) (t := 8) (dK D_FP_orNone 1 rfl) rfl ha0 (fun hc1 => ?_) (fun hc1 => ?_)
  · replace h := ifN h hc1
    refine g_iloadn (pc := 8) (i0 := 0) (j := 0) (dK D_FP_orNone 4 rfl) rfl rfl ?_
    exact vg_iretI (pc := 9) (r := a0) (dK D_FP_orNone 5 rfl) rfl (leK rfl) (leK rfl) (fun _ => rfl) (by obtain rfl := Option.some.inj h; exact ⟨rfl, ha0, rfl⟩)
  · replace h := ifP h hc1
    refine vg_iconst (pc := 4) (dK D_FP_orNone 2 rfl) ?_
    refine g_goto (pc := 5) (tgt := 9) (dK D_FP_orNone 3 rfl) rfl ?_
    exact vg_iretI (pc := 9) (r := (-1)) (dK D_FP_orNone 5 rfl) rfl (leK rfl) (leK rfl) (fun _ => rfl) (by obtain rfl := Option.some.inj h; exact ⟨rfl, (inRk rfl), rfl⟩)
