def lb_FP_describe_54 (c0 : Nat) (a1 : Int) (c2 : Nat) (go : Int × St → Option (St)) (a3 : Int) (S : St) : Option (St) := if (g S (tgt c2 0) 7) ≤ a3 then (some S) else (if 0 ≤ a3 ∧ a3 < 40 then (if (g S (tgt (tgt c2 0) 6) a3.toNat) = a1 then (bnO (fn_Bytes_addItem (tgt c0 5) 97 a3 S) fun p6 => nm (wr (a3 + 1)) fun v7 => go (v7, p6)) else (nm (wr (a3 + 1)) fun v5 => go (v5, S))) else none)
def lo_FP_describe_54 (c0 : Nat) (a1 : Int) (c2 : Nat) : Nat → Int × St → Option (St) := lp fun go p => lb_FP_describe_54 c0 a1 c2 go p.1 p.2
theorem tl_FP_describe_54 {E : EV} {X : XT} (hfl : X.2.2.2 = false) {c0 : Nat} (hc0 : HC X 10 c0) {a1 : Int} (ha1 : inR a1) {c2 : Nat} (hc2 : HC X 8 c2) {K : RK → PS → Prop} {q : St} (hx : Go E M_FP_describe 1 6 94 [(0, .ref c0), (1, V a1), (2, .ref c2)] [] (WX X q) 1 6 K) : ∀ n a, lo_FP_describe_54 c0 a1 c2 n a = some q → inR a.1 → Go E M_FP_describe 1 6 54 [(0, .ref c0), (1, V a1), (2, .ref c2), (3, V a.1)] [] (WX X a.2) 1 6 K := by
  refine lp_ind (P := fun a : Int × St => inR a.1 → Go E M_FP_describe 1 6 54 [(0, .ref c0), (1, V a1), (2, .ref c2), (3, V a.1)] [] (WX X a.2) 1 6 K) (fun go ih a h => ?_)
  obtain ⟨a3, S⟩ := a
  intro ha3
  show Go E M_FP_describe 1 6 54 [(0, .ref c0), (1, V a1), (2, .ref c2), (3, V a3)] [] (WX X S) 1 6 K
  replace h : lb_FP_describe_54 c0 a1 c2 go a3 S = some q := h
  unfold lb_FP_describe_54 at h
  refine g_iloadn (pc := 54) (i0 := 3) (j := 3) (dK D_FP_describe_0 29 rfl) rfl rfl ?_
  refine g_aloadn (pc := 55) (i0 := 2) (j := 2) (dK D_FP_describe_0 30 rfl) rfl rfl ?_
  refine vg_getO (pc := 56) (ci := 8) (f := 0) (dK D_FP_describe_0 31 rfl) q_224 hc2 (ltK rfl) (ltK rfl) rfl ?_
  refine vg_getI (pc := 59) (ci := 0) (f := 7) (dK D_FP_describe_0 32 rfl) q_109 (hw_8_0 hc2) (ltK rfl) (ltK rfl) rfl ?_
  refine vg_icmp_ge (pc := 62) (t := 94) (dK D_FP_describe_0 33 rfl) rfl ha3 (g_in _ _ _) (fun hc9 => ?_) (fun hc9 => ?_)
  · replace h := ifP h hc9
    obtain rfl := Option.some.inj h
    refine gL_weak (ls' := [(0, .ref c0), (1, V a1), (2, .ref c2)]) (sbc 0 rfl (sbc 1 rfl (sbc 2 rfl sbn))) ?_
    exact hx 
  · replace h := ifN h hc9
    refine g_aloadn (pc := 65) (i0 := 2) (j := 2) (dK D_FP_describe_0 34 rfl) rfl rfl ?_
    refine vg_getO (pc := 66) (ci := 8) (f := 0) (dK D_FP_describe_0 35 rfl) q_224 hc2 (ltK rfl) (ltK rfl) rfl ?_
    refine vg_getA (pc := 69) (ci := 0) (f := 6) (dK D_FP_describe_0 36 rfl) q_103 (hw_8_0 hc2) (ltK rfl) (ltK rfl) rfl ?_
    refine g_iloadn (pc := 72) (i0 := 3) (j := 3) (dK D_FP_describe_0 37 rfl) rfl rfl ?_
    refine gdE h (fun hi4 h => ?_)
    refine vg_iaload (pc := 73) (j := a3.toNat) (dK D_FP_describe_0 38 rfl) (hw_0_6 (hw_8_0 hc2)) rfl hi4 rfl ?_
    refine g_iloadn (pc := 74) (i0 := 1) (j := 1) (dK D_FP_describe_0 39 rfl) rfl rfl ?_
    refine vg_icmp_ne (pc := 75) (t := 88) (dK D_FP_describe_0 40 rfl) rfl (g_in _ _ _) ha1 (fun hc8 => ?_) (fun hc8 => ?_)
    · replace h := ifN h hc8
      refine nmE h (fun v5 e_v5 h => ?_)
      refine vg_iinc (pc := 88) (j := 3) (a := a3) (z := 1) (ls2 := [(3, V v5), (0, .ref c0), (1, V a1), (2, .ref c2)]) (dK D_FP_describe_0 46 rfl) rfl e_v5 (ltK rfl) rfl ?_
      refine g_goto (pc := 91) (tgt := 54) (dK D_FP_describe_0 47 rfl) rfl ?_
      refine gL_weak (ls' := [(0, .ref c0), (1, V a1), (2, .ref c2), (3, V v5)]) (sbc 1 rfl (sbc 2 rfl (sbc 3 rfl (sbc 0 rfl sbn)))) ?_
      replace h := ih _ h
      exact h (Vn_in e_v5)
    · replace h := ifP h hc8
      refine g_aloadn (pc := 78) (i0 := 0) (j := 0) (dK D_FP_describe_0 41 rfl) rfl rfl ?_
      refine vg_getO (pc := 79) (ci := 10) (f := 5) (dK D_FP_describe_0 42 rfl) q_427 hc0 (ltK rfl) (ltK rfl) rfl ?_
      refine vg_bipush (pc := 82) (dK D_FP_describe_0 43 rfl) rfl ?_
      refine g_iloadn (pc := 84) (i0 := 3) (j := 3) (dK D_FP_describe_0 44 rfl) rfl rfl ?_
      refine bnE h (fun p6 e_p6 h => ?_)
      refine vg_cV (pc := 85) (As := [V 97, V a3]) (rest := []) (mc' := 0) (ms' := 0) (dK D_FP_describe_0 45 rfl) K_FP_351 (fitK rfl) (ltK rfl) (hw_10_5 hc0) rfl (leK rfl) (leK rfl) (leK rfl) (tf_Bytes_addItem (hw_10_5 hc0) (inRk rfl) ha3 e_p6) (kcU ?_)
      refine nmE h (fun v7 e_v7 h => ?_)
      refine vg_iinc (pc := 88) (j := 3) (a := a3) (z := 1) (ls2 := [(3, V v7), (0, .ref c0), (1, V a1), (2, .ref c2)]) (dK D_FP_describe_0 46 rfl) rfl e_v7 (ltK rfl) rfl ?_
      refine g_goto (pc := 91) (tgt := 54) (dK D_FP_describe_0 47 rfl) rfl ?_
      refine gL_weak (ls' := [(0, .ref c0), (1, V a1), (2, .ref c2), (3, V v7)]) (sbc 1 rfl (sbc 2 rfl (sbc 3 rfl (sbc 0 rfl sbn)))) ?_
      replace h := ih _ h
      exact h (Vn_in e_v7)
def lb_FP_describe_96 (c0 : Nat) (a1 : Int) (c2 : Nat) (go : Int × St → Option (St)) (a3 : Int) (S : St) : Option (St) := if (g S (tgt c2 2) 2) ≤ a3 then (some S) else (if 0 ≤ a3 ∧ a3 < 8 then (if (g S (tgt (tgt c2 2) 1) a3.toNat) = a1 then (bnO (fn_Bytes_addItem (tgt c0 5) 98 a3 S) fun p13 => nm (wr (a3 + 1)) fun v14 => go (v14, p13)) else (nm (wr (a3 + 1)) fun v12 => go (v12, S))) else none)
def lo_FP_describe_96 (c0 : Nat) (a1 : Int) (c2 : Nat) : Nat → Int × St → Option (St) := lp fun go p => lb_FP_describe_96 c0 a1 c2 go p.1 p.2
theorem tl_FP_describe_96 {E : EV} {X : XT} (hfl : X.2.2.2 = false) {c0 : Nat} (hc0 : HC X 10 c0) {a1 : Int} (ha1 : inR a1) {c2 : Nat} (hc2 : HC X 8 c2) {K : RK → PS → Prop} {q : St} (hx : Go E M_FP_describe 1 6 136 [(0, .ref c0), (1, V a1)] [] (WX X q) 1 6 K) : ∀ n a, lo_FP_describe_96 c0 a1 c2 n a = some q → inR a.1 → Go E M_FP_describe 1 6 96 [(0, .ref c0), (1, V a1), (2, .ref c2), (3, V a.1)] [] (WX X a.2) 1 6 K := by
  refine lp_ind (P := fun a : Int × St => inR a.1 → Go E M_FP_describe 1 6 96 [(0, .ref c0), (1, V a1), (2, .ref c2), (3, V a.1)] [] (WX X a.2) 1 6 K) (fun go ih a h => ?_)
  obtain ⟨a3, S⟩ := a
  intro ha3
  show Go E M_FP_describe 1 6 96 [(0, .ref c0), (1, V a1), (2, .ref c2), (3, V a3)] [] (WX X S) 1 6 K
  replace h : lb_FP_describe_96 c0 a1 c2 go a3 S = some q := h
  unfold lb_FP_describe_96 at h
  refine g_iloadn (pc := 96) (i0 := 3) (j := 3) (dK D_FP_describe_1 0 rfl) rfl rfl ?_
  refine g_aloadn (pc := 97) (i0 := 2) (j := 2) (dK D_FP_describe_1 1 rfl) rfl rfl ?_
  refine vg_getO (pc := 98) (ci := 8) (f := 2) (dK D_FP_describe_1 2 rfl) q_232 hc2 (ltK rfl) (ltK rfl) rfl ?_
  refine vg_getI (pc := 101) (ci := 7) (f := 2) (dK D_FP_describe_1 3 rfl) q_185 (hw_8_2 hc2) (ltK rfl) (ltK rfl) rfl ?_
  refine vg_icmp_ge (pc := 104) (t := 136) (dK D_FP_describe_1 4 rfl) rfl ha3 (g_in _ _ _) (fun hc16 => ?_) (fun hc16 => ?_)
  · replace h := ifP h hc16
    obtain rfl := Option.some.inj h
    refine gL_weak (ls' := [(0, .ref c0), (1, V a1)]) (sbc 0 rfl (sbc 1 rfl sbn)) ?_
    exact hx 
  · replace h := ifN h hc16
    refine g_aloadn (pc := 107) (i0 := 2) (j := 2) (dK D_FP_describe_1 5 rfl) rfl rfl ?_
    refine vg_getO (pc := 108) (ci := 8) (f := 2) (dK D_FP_describe_1 6 rfl) q_232 hc2 (ltK rfl) (ltK rfl) rfl ?_
    refine vg_getA (pc := 111) (ci := 7) (f := 1) (dK D_FP_describe_1 7 rfl) q_182 (hw_8_2 hc2) (ltK rfl) (ltK rfl) rfl ?_
    refine g_iloadn (pc := 114) (i0 := 3) (j := 3) (dK D_FP_describe_1 8 rfl) rfl rfl ?_
    refine gdE h (fun hi11 h => ?_)
    refine vg_iaload (pc := 115) (j := a3.toNat) (dK D_FP_describe_1 9 rfl) (hw_7_1 (hw_8_2 hc2)) rfl hi11 rfl ?_
    refine g_iloadn (pc := 116) (i0 := 1) (j := 1) (dK D_FP_describe_1 10 rfl) rfl rfl ?_
    refine vg_icmp_ne (pc := 117) (t := 130) (dK D_FP_describe_1 11 rfl) rfl (g_in _ _ _) ha1 (fun hc15 => ?_) (fun hc15 => ?_)
    · replace h := ifN h hc15
      refine nmE h (fun v12 e_v12 h => ?_)
      refine vg_iinc (pc := 130) (j := 3) (a := a3) (z := 1) (ls2 := [(3, V v12), (0, .ref c0), (1, V a1), (2, .ref c2)]) (dK D_FP_describe_1 17 rfl) rfl e_v12 (ltK rfl) rfl ?_
      refine g_goto (pc := 133) (tgt := 96) (dK D_FP_describe_1 18 rfl) rfl ?_
      refine gL_weak (ls' := [(0, .ref c0), (1, V a1), (2, .ref c2), (3, V v12)]) (sbc 1 rfl (sbc 2 rfl (sbc 3 rfl (sbc 0 rfl sbn)))) ?_
      replace h := ih _ h
      exact h (Vn_in e_v12)
    · replace h := ifP h hc15
      refine g_aloadn (pc := 120) (i0 := 0) (j := 0) (dK D_FP_describe_1 12 rfl) rfl rfl ?_
      refine vg_getO (pc := 121) (ci := 10) (f := 5) (dK D_FP_describe_1 13 rfl) q_427 hc0 (ltK rfl) (ltK rfl) rfl ?_
      refine vg_bipush (pc := 124) (dK D_FP_describe_1 14 rfl) rfl ?_
      refine g_iloadn (pc := 126) (i0 := 3) (j := 3) (dK D_FP_describe_1 15 rfl) rfl rfl ?_
      refine bnE h (fun p13 e_p13 h => ?_)
      refine vg_cV (pc := 127) (As := [V 98, V a3]) (rest := []) (mc' := 0) (ms' := 0) (dK D_FP_describe_1 16 rfl) K_FP_351 (fitK rfl) (ltK rfl) (hw_10_5 hc0) rfl (leK rfl) (leK rfl) (leK rfl) (tf_Bytes_addItem (hw_10_5 hc0) (inRk rfl) ha3 e_p13) (kcU ?_)
      refine nmE h (fun v14 e_v14 h => ?_)
      refine vg_iinc (pc := 130) (j := 3) (a := a3) (z := 1) (ls2 := [(3, V v14), (0, .ref c0), (1, V a1), (2, .ref c2)]) (dK D_FP_describe_1 17 rfl) rfl e_v14 (ltK rfl) rfl ?_
      refine g_goto (pc := 133) (tgt := 96) (dK D_FP_describe_1 18 rfl) rfl ?_
      refine gL_weak (ls' := [(0, .ref c0), (1, V a1), (2, .ref c2), (3, V v14)]) (sbc 1 rfl (sbc 2 rfl (sbc 3 rfl (sbc 0 rfl sbn)))) ?_
      replace h := ih _ h
      exact h (Vn_in e_v14)
def fn_FP_describe (c0 : Nat) (a1 : Int) (S : St) : Option (Nat × Int × St) := bnO (fn_FP_needPage c0 a1 S) fun p1 => if p1 = 0 then (nm (u S (tgt c0 5) 1 0) fun S2 => if 0 ≤ a1 ∧ a1 < 65 then (if (g S2 (tgt (tgt c0 3) 6) a1.toNat) = (-1) then (bnO (lo_FP_describe_54 c0 a1 (tgt (tgt c0 3) 0) FU (0, S2)) fun p10 => bnO (lo_FP_describe_96 c0 a1 (tgt (tgt c0 3) 0) FU (0, p10)) fun p17 => if (g p17 (tgt (tgt c0 3) 5) a1.toNat) ≤ 0 then (some (0, (g p17 (tgt c0 5) 1), p17)) else (bnO (fn_Bytes_addItem (tgt c0 5) 43 (g p17 (tgt (tgt c0 3) 5) a1.toNat) p17) fun p18 => some (0, (g p18 (tgt c0 5) 1), p18))) else (bnO (fn_Bytes_addItem (tgt c0 5) 115 (g S2 (tgt (tgt c0 3) 6) a1.toNat) S2) fun p20 => bnO (lo_FP_describe_54 c0 a1 (tgt (tgt c0 3) 0) FU (0, p20)) fun p21 => bnO (lo_FP_describe_96 c0 a1 (tgt (tgt c0 3) 0) FU (0, p21)) fun p22 => if (g p22 (tgt (tgt c0 3) 5) a1.toNat) ≤ 0 then (some (0, (g p22 (tgt c0 5) 1), p22)) else (bnO (fn_Bytes_addItem (tgt c0 5) 43 (g p22 (tgt (tgt c0 3) 5) a1.toNat) p22) fun p23 => some (0, (g p23 (tgt c0 5) 1), p23)))) else none) else (some (p1, 0, S))
theorem tf_FP_describe {E : EV} {X : XT} (hfl : X.2.2.2 = false) {c0 : Nat} (hc0 : HC X 10 c0) {a1 : Int} (ha1 : inR a1) {S : St} {q : Nat × Int × St} (h : fn_FP_describe c0 a1 S = some q) : Ev E M_FP_describe [.ref c0, V a1] (WX X S) 1 6 (KT X q.1 q.2.2 (KI X q.2.1 q.2.2)) := by
  refine Ev.of pn_FP rfl (leK rfl) ?_
  show Go E M_FP_describe 1 6 0 [(0, .ref c0), (1, V a1)] [] (WX X S) 0 0 (KT X q.1 q.2.2 (KI X q.2.1 q.2.2))
  unfold fn_FP_describe at h
  refine g_aloadn (pc := 0) (i0 := 0) (j := 0) (dK D_FP_describe_0 0 rfl) rfl rfl ?_
  refine g_iloadn (pc := 1) (i0 := 1) (j := 1) (dK D_FP_describe_0 1 rfl) rfl rfl ?_
  refine bnE h (fun p1 e_p1 h => ?_)
  refine vg_cV (pc := 2) (As := [V a1]) (rest := []) (mc' := 1) (ms' := 6) (dK D_FP_describe_0 2 rfl) K_FP_204 (fitK rfl) (ltK rfl) hc0 rfl (leK rfl) (leK rfl) (leK rfl) (tf_FP_needPage hfl hc0 ha1 e_p1) (kcT hfl (fun he26 => kcU ?_) (fun he26 => ⟨rfl, ?_⟩))
  · replace h := ifP h he26
    refine g_aloadn (pc := 5) (i0 := 0) (j := 0) (dK D_FP_describe_0 3 rfl) rfl rfl ?_
    refine vg_getO (pc := 6) (ci := 10) (f := 3) (dK D_FP_describe_0 4 rfl) q_425 hc0 (ltK rfl) (ltK rfl) rfl ?_
    refine vg_getO (pc := 9) (ci := 4) (f := 0) (dK D_FP_describe_0 5 rfl) q_292 (hw_10_3 hc0) (ltK rfl) (ltK rfl) rfl ?_
    refine g_astoren (pc := 12) (i0 := 2) (ls2 := [(2, .ref (tgt (tgt c0 3) 0)), (0, .ref c0), (1, V a1)]) (dK D_FP_describe_0 6 rfl) rfl (ltK rfl) rfl ?_
    refine g_aloadn (pc := 13) (i0 := 0) (j := 1) (dK D_FP_describe_0 7 rfl) rfl rfl ?_
    refine vg_getO (pc := 14) (ci := 10) (f := 5) (dK D_FP_describe_0 8 rfl) q_427 hc0 (ltK rfl) (ltK rfl) rfl ?_
    refine vg_iconst (pc := 17) (dK D_FP_describe_0 9 rfl) ?_
    refine nmE h (fun S2 e_S2 h => ?_)
    refine vg_putI (pc := 18) (ci := 1) (f := 1) (z := 0) (dK D_FP_describe_0 10 rfl) q_50 (hw_10_5 hc0) (ltK rfl) (ltK rfl) rfl rfl e_S2 ?_
    refine g_aloadn (pc := 21) (i0 := 0) (j := 1) (dK D_FP_describe_0 11 rfl) rfl rfl ?_
    refine vg_getO (pc := 22) (ci := 10) (f := 3) (dK D_FP_describe_0 12 rfl) q_425 hc0 (ltK rfl) (ltK rfl) rfl ?_
    refine vg_getA (pc := 25) (ci := 4) (f := 6) (dK D_FP_describe_0 13 rfl) q_311 (hw_10_3 hc0) (ltK rfl) (ltK rfl) rfl ?_
    refine g_iloadn (pc := 28) (i0 := 1) (j := 2) (dK D_FP_describe_0 14 rfl) rfl rfl ?_
    refine gdE h (fun hi3 h => ?_)
    refine vg_iaload (pc := 29) (j := a1.toNat) (dK D_FP_describe_0 15 rfl) (hw_4_6 (hw_10_3 hc0)) rfl hi3 rfl ?_
    refine vg_iconst (pc := 30) (dK D_FP_describe_0 16 rfl) ?_
    refine vg_icmp_eq (pc := 31) (t := 52) (dK D_FP_describe_0 17 rfl) rfl (g_in _ _ _) (inRk rfl) (fun hc25 => ?_) (fun hc25 => ?_)
    · replace h := ifP h hc25
      refine vg_iconst (pc := 52) (dK D_FP_describe_0 27 rfl) ?_
      refine g_istoren (pc := 53) (i0 := 3) (ls2 := [(3, V 0), (2, .ref (tgt (tgt c0 3) 0)), (0, .ref c0), (1, V a1)]) (dK D_FP_describe_0 28 rfl) rfl (ltK rfl) rfl ?_
      refine bnE h (fun p10 e_p10 h => ?_)
      refine gL_weak (ls' := [(0, .ref c0), (1, V a1), (2, .ref (tgt (tgt c0 3) 0)), (3, V 0)]) (sbc 2 rfl (sbc 3 rfl (sbc 1 rfl (sbc 0 rfl sbn)))) ?_
      refine tl_FP_describe_54 hfl hc0 ha1 (hw_4_0 (hw_10_3 hc0)) ?_ FU (0, S2) e_p10 (inRk rfl)
      refine vg_iconst (pc := 94) (dK D_FP_describe_0 48 rfl) ?_
      refine g_istoren (pc := 95) (i0 := 3) (ls2 := [(3, V 0), (0, .ref c0), (1, V a1), (2, .ref (tgt (tgt c0 3) 0))]) (dK D_FP_describe_0 49 rfl) rfl (ltK rfl) rfl ?_
      refine bnE h (fun p17 e_p17 h => ?_)
      refine gL_weak (ls' := [(0, .ref c0), (1, V a1), (2, .ref (tgt (tgt c0 3) 0)), (3, V 0)]) (sbc 1 rfl (sbc 2 rfl (sbc 3 rfl (sbc 0 rfl sbn)))) ?_
      refine tl_FP_describe_96 hfl hc0 ha1 (hw_4_0 (hw_10_3 hc0)) ?_ FU (0, p10) e_p17 (inRk rfl)
      refine g_aloadn (pc := 136) (i0 := 0) (j := 0) (dK D_FP_describe_1 19 rfl) rfl rfl ?_
      refine vg_getO (pc := 137) (ci := 10) (f := 3) (dK D_FP_describe_1 20 rfl) q_425 hc0 (ltK rfl) (ltK rfl) rfl ?_
      refine vg_getA (pc := 140) (ci := 4) (f := 5) (dK D_FP_describe_1 21 rfl) q_308 (hw_10_3 hc0) (ltK rfl) (ltK rfl) rfl ?_
      refine g_iloadn (pc := 143) (i0 := 1) (j := 1) (dK D_FP_describe_1 22 rfl) rfl rfl ?_
      refine vg_iaload (pc := 144) (j := a1.toNat) (dK D_FP_describe_1 23 rfl) (hw_4_5 (hw_10_3 hc0)) rfl hi3 rfl ?_
      refine vg_if_le (pc := 145) (t := 166) (dK D_FP_describe_1 24 rfl) rfl (g_in _ _ _) (fun hc19 => ?_) (fun hc19 => ?_)
      · replace h := ifP h hc19
        refine g_aloadn (pc := 166) (i0 := 0) (j := 0) (dK D_FP_describe_1 34 rfl) rfl rfl ?_
        refine vg_getO (pc := 167) (ci := 10) (f := 5) (dK D_FP_describe_1 35 rfl) q_427 hc0 (ltK rfl) (ltK rfl) rfl ?_
        refine vg_getI (pc := 170) (ci := 1) (f := 1) (dK D_FP_describe_1 36 rfl) q_50 (hw_10_5 hc0) (ltK rfl) (ltK rfl) rfl ?_
        exact vg_iretI (pc := 173) (r := (g p17 (tgt c0 5) 1)) (dK D_FP_describe_1 37 rfl) rfl (leK rfl) (leK rfl) (xf hfl) (by obtain rfl := Option.some.inj h; exact KT_ok ⟨rfl, (g_in _ _ _), rfl⟩)
      · replace h := ifN h hc19
        refine g_aloadn (pc := 148) (i0 := 0) (j := 0) (dK D_FP_describe_1 25 rfl) rfl rfl ?_
        refine vg_getO (pc := 149) (ci := 10) (f := 5) (dK D_FP_describe_1 26 rfl) q_427 hc0 (ltK rfl) (ltK rfl) rfl ?_
        refine vg_bipush (pc := 152) (dK D_FP_describe_1 27 rfl) rfl ?_
        refine g_aloadn (pc := 154) (i0 := 0) (j := 0) (dK D_FP_describe_1 28 rfl) rfl rfl ?_
        refine vg_getO (pc := 155) (ci := 10) (f := 3) (dK D_FP_describe_1 29 rfl) q_425 hc0 (ltK rfl) (ltK rfl) rfl ?_
        refine vg_getA (pc := 158) (ci := 4) (f := 5) (dK D_FP_describe_1 30 rfl) q_308 (hw_10_3 hc0) (ltK rfl) (ltK rfl) rfl ?_
        refine g_iloadn (pc := 161) (i0 := 1) (j := 1) (dK D_FP_describe_1 31 rfl) rfl rfl ?_
        refine vg_iaload (pc := 162) (j := a1.toNat) (dK D_FP_describe_1 32 rfl) (hw_4_5 (hw_10_3 hc0)) rfl hi3 rfl ?_
        refine bnE h (fun p18 e_p18 h => ?_)
        refine vg_cV (pc := 163) (As := [V 43, V (g p17 (tgt (tgt c0 3) 5) a1.toNat)]) (rest := []) (mc' := 0) (ms' := 0) (dK D_FP_describe_1 33 rfl) K_FP_351 (fitK rfl) (ltK rfl) (hw_10_5 hc0) rfl (leK rfl) (leK rfl) (leK rfl) (tf_Bytes_addItem (hw_10_5 hc0) (inRk rfl) (g_in _ _ _) e_p18) (kcU ?_)
        refine g_aloadn (pc := 166) (i0 := 0) (j := 0) (dK D_FP_describe_1 34 rfl) rfl rfl ?_
        refine vg_getO (pc := 167) (ci := 10) (f := 5) (dK D_FP_describe_1 35 rfl) q_427 hc0 (ltK rfl) (ltK rfl) rfl ?_
        refine vg_getI (pc := 170) (ci := 1) (f := 1) (dK D_FP_describe_1 36 rfl) q_50 (hw_10_5 hc0) (ltK rfl) (ltK rfl) rfl ?_
        exact vg_iretI (pc := 173) (r := (g p18 (tgt c0 5) 1)) (dK D_FP_describe_1 37 rfl) rfl (leK rfl) (leK rfl) (xf hfl) (by obtain rfl := Option.some.inj h; exact KT_ok ⟨rfl, (g_in _ _ _), rfl⟩)
    · replace h := ifN h hc25
      refine g_aloadn (pc := 34) (i0 := 0) (j := 1) (dK D_FP_describe_0 18 rfl) rfl rfl ?_
      refine vg_getO (pc := 35) (ci := 10) (f := 5) (dK D_FP_describe_0 19 rfl) q_427 hc0 (ltK rfl) (ltK rfl) rfl ?_
      refine vg_bipush (pc := 38) (dK D_FP_describe_0 20 rfl) rfl ?_
      refine g_aloadn (pc := 40) (i0 := 0) (j := 1) (dK D_FP_describe_0 21 rfl) rfl rfl ?_
      refine vg_getO (pc := 41) (ci := 10) (f := 3) (dK D_FP_describe_0 22 rfl) q_425 hc0 (ltK rfl) (ltK rfl) rfl ?_
      refine vg_getA (pc := 44) (ci := 4) (f := 6) (dK D_FP_describe_0 23 rfl) q_311 (hw_10_3 hc0) (ltK rfl) (ltK rfl) rfl ?_
      refine g_iloadn (pc := 47) (i0 := 1) (j := 2) (dK D_FP_describe_0 24 rfl) rfl rfl ?_
      refine vg_iaload (pc := 48) (j := a1.toNat) (dK D_FP_describe_0 25 rfl) (hw_4_6 (hw_10_3 hc0)) rfl hi3 rfl ?_
      refine bnE h (fun p20 e_p20 h => ?_)
      refine vg_cV (pc := 49) (As := [V 115, V (g S2 (tgt (tgt c0 3) 6) a1.toNat)]) (rest := []) (mc' := 0) (ms' := 0) (dK D_FP_describe_0 26 rfl) K_FP_351 (fitK rfl) (ltK rfl) (hw_10_5 hc0) rfl (leK rfl) (leK rfl) (leK rfl) (tf_Bytes_addItem (hw_10_5 hc0) (inRk rfl) (g_in _ _ _) e_p20) (kcU ?_)
      refine vg_iconst (pc := 52) (dK D_FP_describe_0 27 rfl) ?_
      refine g_istoren (pc := 53) (i0 := 3) (ls2 := [(3, V 0), (2, .ref (tgt (tgt c0 3) 0)), (0, .ref c0), (1, V a1)]) (dK D_FP_describe_0 28 rfl) rfl (ltK rfl) rfl ?_
      refine bnE h (fun p21 e_p21 h => ?_)
      refine gL_weak (ls' := [(0, .ref c0), (1, V a1), (2, .ref (tgt (tgt c0 3) 0)), (3, V 0)]) (sbc 2 rfl (sbc 3 rfl (sbc 1 rfl (sbc 0 rfl sbn)))) ?_
      refine tl_FP_describe_54 hfl hc0 ha1 (hw_4_0 (hw_10_3 hc0)) ?_ FU (0, p20) e_p21 (inRk rfl)
      refine vg_iconst (pc := 94) (dK D_FP_describe_0 48 rfl) ?_
      refine g_istoren (pc := 95) (i0 := 3) (ls2 := [(3, V 0), (0, .ref c0), (1, V a1), (2, .ref (tgt (tgt c0 3) 0))]) (dK D_FP_describe_0 49 rfl) rfl (ltK rfl) rfl ?_
      refine bnE h (fun p22 e_p22 h => ?_)
      refine gL_weak (ls' := [(0, .ref c0), (1, V a1), (2, .ref (tgt (tgt c0 3) 0)), (3, V 0)]) (sbc 1 rfl (sbc 2 rfl (sbc 3 rfl (sbc 0 rfl sbn)))) ?_
      refine tl_FP_describe_96 hfl hc0 ha1 (hw_4_0 (hw_10_3 hc0)) ?_ FU (0, p21) e_p22 (inRk rfl)
      refine g_aloadn (pc := 136) (i0 := 0) (j := 0) (dK D_FP_describe_1 19 rfl) rfl rfl ?_
      refine vg_getO (pc := 137) (ci := 10) (f := 3) (dK D_FP_describe_1 20 rfl) q_425 hc0 (ltK rfl) (ltK rfl) rfl ?_
      refine vg_getA (pc := 140) (ci := 4) (f := 5) (dK D_FP_describe_1 21 rfl) q_308 (hw_10_3 hc0) (ltK rfl) (ltK rfl) rfl ?_
      refine g_iloadn (pc := 143) (i0 := 1) (j := 1) (dK D_FP_describe_1 22 rfl) rfl rfl ?_
      refine vg_iaload (pc := 144) (j := a1.toNat) (dK D_FP_describe_1 23 rfl) (hw_4_5 (hw_10_3 hc0)) rfl hi3 rfl ?_
      refine vg_if_le (pc := 145) (t := 166) (dK D_FP_describe_1 24 rfl) rfl (g_in _ _ _) (fun hc24 => ?_) (fun hc24 => ?_)
      · replace h := ifP h hc24
        refine g_aloadn (pc := 166) (i0 := 0) (j := 0) (dK D_FP_describe_1 34 rfl) rfl rfl ?_
        refine vg_getO (pc := 167) (ci := 10) (f := 5) (dK D_FP_describe_1 35 rfl) q_427 hc0 (ltK rfl) (ltK rfl) rfl ?_
        refine vg_getI (pc := 170) (ci := 1) (f := 1) (dK D_FP_describe_1 36 rfl) q_50 (hw_10_5 hc0) (ltK rfl) (ltK rfl) rfl ?_
        exact vg_iretI (pc := 173) (r := (g p22 (tgt c0 5) 1)) (dK D_FP_describe_1 37 rfl) rfl (leK rfl) (leK rfl) (xf hfl) (by obtain rfl := Option.some.inj h; exact KT_ok ⟨rfl, (g_in _ _ _), rfl⟩)
      · replace h := ifN h hc24
        refine g_aloadn (pc := 148) (i0 := 0) (j := 0) (dK D_FP_describe_1 25 rfl) rfl rfl ?_
        refine vg_getO (pc := 149) (ci := 10) (f := 5) (dK D_FP_describe_1 26 rfl) q_427 hc0 (ltK rfl) (ltK rfl) rfl ?_
        refine vg_bipush (pc := 152) (dK D_FP_describe_1 27 rfl) rfl ?_
        refine g_aloadn (pc := 154) (i0 := 0) (j := 0) (dK D_FP_describe_1 28 rfl) rfl rfl ?_
        refine vg_getO (pc := 155) (ci := 10) (f := 3) (dK D_FP_describe_1 29 rfl) q_425 hc0 (ltK rfl) (ltK rfl) rfl ?_
        refine vg_getA (pc := 158) (ci := 4) (f := 5) (dK D_FP_describe_1 30 rfl) q_308 (hw_10_3 hc0) (ltK rfl) (ltK rfl) rfl ?_
        refine g_iloadn (pc := 161) (i0 := 1) (j := 1) (dK D_FP_describe_1 31 rfl) rfl rfl ?_
        refine vg_iaload (pc := 162) (j := a1.toNat) (dK D_FP_describe_1 32 rfl) (hw_4_5 (hw_10_3 hc0)) rfl hi3 rfl ?_
        refine bnE h (fun p23 e_p23 h => ?_)
        refine vg_cV (pc := 163) (As := [V 43, V (g p22 (tgt (tgt c0 3) 5) a1.toNat)]) (rest := []) (mc' := 0) (ms' := 0) (dK D_FP_describe_1 33 rfl) K_FP_351 (fitK rfl) (ltK rfl) (hw_10_5 hc0) rfl (leK rfl) (leK rfl) (leK rfl) (tf_Bytes_addItem (hw_10_5 hc0) (inRk rfl) (g_in _ _ _) e_p23) (kcU ?_)
        refine g_aloadn (pc := 166) (i0 := 0) (j := 0) (dK D_FP_describe_1 34 rfl) rfl rfl ?_
        refine vg_getO (pc := 167) (ci := 10) (f := 5) (dK D_FP_describe_1 35 rfl) q_427 hc0 (ltK rfl) (ltK rfl) rfl ?_
        refine vg_getI (pc := 170) (ci := 1) (f := 1) (dK D_FP_describe_1 36 rfl) q_50 (hw_10_5 hc0) (ltK rfl) (ltK rfl) rfl ?_
        exact vg_iretI (pc := 173) (r := (g p23 (tgt c0 5) 1)) (dK D_FP_describe_1 37 rfl) rfl (leK rfl) (leK rfl) (xf hfl) (by obtain rfl := Option.some.inj h; exact KT_ok ⟨rfl, (g_in _ _ _), rfl⟩)
  · replace h := ifN h he26
    obtain rfl := Option.some.inj h
    exact KT_thr he26
def fn_Law_describe (c0 : Nat) (a1 : Int) (c2 : Nat) (S : St) : Option (Int × St) := bnO (fn_FP_describe c0 a1 S) fun p1 => if p1.1 = 0 then (nm (ul p1.2.2 c2 0 p1.2.1) fun S2 => some (0, S2)) else (if p1.1 = 1 then (some (1, p1.2.2)) else none)
theorem tf_Law_describe {E : EV} {X : XT} (hfl : X.2.2.2 = false) {c0 : Nat} (hc0 : HC X 10 c0) {a1 : Int} (ha1 : inR a1) {c2 : Nat} (hc2 : HA X 3 1 c2) {S : St} {q : Int × St} (h : fn_Law_describe c0 a1 c2 S = some q) : EvH E M_Law_describe [.ref c0, V a1, .ref c2] (WX X S) 1 6 (KI X q.1 q.2) := by
  refine EvH.of pn_Law (leK rfl) ?_
  show Go E M_Law_describe 1 6 0 [(0, .ref c0), (1, V a1), (2, .ref c2)] [] (WX X S) 0 0 (KI X q.1 q.2)
  unfold fn_Law_describe at h
  refine g_aloadn (pc := 0) (i0 := 2) (j := 2) (dK D_Law_describe 0 rfl) rfl rfl ?_
  refine vg_iconst (pc := 1) (dK D_Law_describe 1 rfl) ?_
  refine g_aloadn (pc := 2) (i0 := 0) (j := 0) (dK D_Law_describe 2 rfl) rfl rfl ?_
  refine g_iloadn (pc := 3) (i0 := 1) (j := 1) (dK D_Law_describe 3 rfl) rfl rfl ?_
  refine bnE h (fun p1 e_p1 h => ?_)
  refine vg_cVX hfl (pc := 4) (As := [V a1]) (rest := [V 0, .ref c2]) (mc' := 1) (ms' := 6) (dK D_Law_describe 4 rfl) K_Law_124 (fitK rfl) (ltK rfl) hc0 rfl (leK rfl) (leK rfl) (leK rfl) (tf_FP_describe hfl hc0 ha1 e_p1) (kxT hfl (fun he3 => kxI hfl (fun h_p1 => ?_)) (fun he3 => ?_))
  · replace h := ifP h he3
    refine vg_i2l (pc := 7) (dK D_Law_describe 5 rfl) h_p1 ?_
    refine nmE h (fun S2 e_S2 h => ?_)
    refine vg_lastore (pc := 8) (z := p1.2.1) (dK D_Law_describe 6 rfl) hc2 rfl ⟨by decide, by decide⟩ rfl e_S2 ?_
    refine g_goto (pc := 9) (tgt := 15) (dK D_Law_describe 7 rfl) rfl ?_
    refine vg_iconst (pc := 15) (dK D_Law_describe 11 rfl) ?_
    exact vg_iretI (pc := 16) (r := 0) (dK D_Law_describe 12 rfl) rfl (leK rfl) (leK rfl) (xf hfl) (by obtain rfl := Option.some.inj h; exact ⟨rfl, (inRk rfl), rfl⟩)
  · replace h := ifN h he3
    by_cases hq4 : p1.1 = 1
    · have h := ifP h hq4
      rw [hq4]
      exact ⟨_, CT_Law_describe_4_1, (by obtain rfl := Option.some.inj h; exact ⟨rfl, (inRk rfl), rfl⟩)⟩
    · replace h := ifN h hq4
      exact nomatch h
def lb_Mo_clearBlock_2 (c0 : Nat) (a1 : Int) (go : Int × St → Option (St)) (a2 : Int) (S : St) : Option (St) := if 380 ≤ a2 then (some S) else (if 0 ≤ ((380 * a1) + a2) ∧ ((380 * a1) + a2) < 8740 then (nm (u S (tgt c0 0) ((((380 * a1) + a2)).toNat) 0) fun S2 => nm (wr (a2 + 1)) fun v3 => go (v3, S2)) else none)
def lo_Mo_clearBlock_2 (c0 : Nat) (a1 : Int) : Nat → Int × St → Option (St) := lp fun go p => lb_Mo_clearBlock_2 c0 a1 go p.1 p.2
theorem tl_Mo_clearBlock_2 {E : EV} {X : XT} {c0 : Nat} (hc0 : HC X 11 c0) {a1 : Int} (ha1 : inR a1) {K : RK → PS → Prop} {q : St} (hx : Go E M_Mo_clearBlock 0 0 28 [(0, .ref c0), (1, V a1)] [] (WX X q) 0 0 K) : ∀ n a, lo_Mo_clearBlock_2 c0 a1 n a = some q → inR a.1 → Go E M_Mo_clearBlock 0 0 2 [(0, .ref c0), (1, V a1), (2, V a.1)] [] (WX X a.2) 0 0 K := by
  refine lp_ind (P := fun a : Int × St => inR a.1 → Go E M_Mo_clearBlock 0 0 2 [(0, .ref c0), (1, V a1), (2, V a.1)] [] (WX X a.2) 0 0 K) (fun go ih a h => ?_)
  obtain ⟨a2, S⟩ := a
  intro ha2
  show Go E M_Mo_clearBlock 0 0 2 [(0, .ref c0), (1, V a1), (2, V a2)] [] (WX X S) 0 0 K
  replace h : lb_Mo_clearBlock_2 c0 a1 go a2 S = some q := h
  unfold lb_Mo_clearBlock_2 at h
  refine g_iloadn (pc := 2) (i0 := 2) (j := 2) (dK D_Mo_clearBlock 2 rfl) rfl rfl ?_
  refine vg_sipush (pc := 3) (dK D_Mo_clearBlock 3 rfl) rfl ?_
  refine vg_icmp_ge (pc := 6) (t := 28) (dK D_Mo_clearBlock 4 rfl) rfl ha2 (inRk rfl) (fun hc4 => ?_) (fun hc4 => ?_)
  · replace h := ifP h hc4
    obtain rfl := Option.some.inj h
    refine gL_weak (ls' := [(0, .ref c0), (1, V a1)]) (sbc 0 rfl (sbc 1 rfl sbn)) ?_
    exact hx 
  · replace h := ifN h hc4
    refine g_aloadn (pc := 9) (i0 := 0) (j := 0) (dK D_Mo_clearBlock 5 rfl) rfl rfl ?_
    refine vg_getA (pc := 10) (ci := 11) (f := 0) (dK D_Mo_clearBlock 6 rfl) q_1442 hc0 (ltK rfl) (ltK rfl) rfl ?_
    refine vg_sipush (pc := 13) (dK D_Mo_clearBlock 7 rfl) rfl ?_
    refine g_iloadn (pc := 16) (i0 := 1) (j := 1) (dK D_Mo_clearBlock 8 rfl) rfl rfl ?_
    refine vg_imul (pc := 17) (dK D_Mo_clearBlock 9 rfl) ?_
    refine g_iloadn (pc := 18) (i0 := 2) (j := 2) (dK D_Mo_clearBlock 10 rfl) rfl rfl ?_
    refine vg_iadd (pc := 19) (dK D_Mo_clearBlock 11 rfl) ?_
    refine vg_iconst (pc := 20) (dK D_Mo_clearBlock 12 rfl) ?_
    refine gdE h (fun hi1 h => ?_)
    refine nmE h (fun S2 e_S2 h => ?_)
    refine vg_iastore (pc := 21) (z := 0) (dK D_Mo_clearBlock 13 rfl) (hw_11_0 hc0) rfl hi1 rfl e_S2 ?_
    refine nmE h (fun v3 e_v3 h => ?_)
    refine vg_iinc (pc := 22) (j := 2) (a := a2) (z := 1) (ls2 := [(2, V v3), (0, .ref c0), (1, V a1)]) (dK D_Mo_clearBlock 14 rfl) rfl e_v3 (ltK rfl) rfl ?_
    refine g_goto (pc := 25) (tgt := 2) (dK D_Mo_clearBlock 15 rfl) rfl ?_
    refine gL_weak (ls' := [(0, .ref c0), (1, V a1), (2, V v3)]) (sbc 1 rfl (sbc 2 rfl (sbc 0 rfl sbn))) ?_
    replace h := ih _ h
    exact h (Vn_in e_v3)
def lb_Mo_clearBlock_30 (c0 : Nat) (a1 : Int) (go : Int × St → Option (St)) (a2 : Int) (S : St) : Option (St) := if 8 ≤ a2 then (some S) else (if 0 ≤ ((((380 * a1) + 5) + (3 * a2)) + 2) ∧ ((((380 * a1) + 5) + (3 * a2)) + 2) < 8740 then (nm (u S (tgt c0 0) ((((((380 * a1) + 5) + (3 * a2)) + 2)).toNat) (-1)) fun S7 => nm (wr (a2 + 1)) fun v8 => go (v8, S7)) else none)
def lo_Mo_clearBlock_30 (c0 : Nat) (a1 : Int) : Nat → Int × St → Option (St) := lp fun go p => lb_Mo_clearBlock_30 c0 a1 go p.1 p.2
theorem tl_Mo_clearBlock_30 {E : EV} {X : XT} {c0 : Nat} (hc0 : HC X 11 c0) {a1 : Int} (ha1 : inR a1) {K : RK → PS → Prop} {q : St} (hx : Go E M_Mo_clearBlock 0 0 61 [] [] (WX X q) 0 0 K) : ∀ n a, lo_Mo_clearBlock_30 c0 a1 n a = some q → inR a.1 → Go E M_Mo_clearBlock 0 0 30 [(0, .ref c0), (1, V a1), (2, V a.1)] [] (WX X a.2) 0 0 K := by
  refine lp_ind (P := fun a : Int × St => inR a.1 → Go E M_Mo_clearBlock 0 0 30 [(0, .ref c0), (1, V a1), (2, V a.1)] [] (WX X a.2) 0 0 K) (fun go ih a h => ?_)
  obtain ⟨a2, S⟩ := a
  intro ha2
  show Go E M_Mo_clearBlock 0 0 30 [(0, .ref c0), (1, V a1), (2, V a2)] [] (WX X S) 0 0 K
  replace h : lb_Mo_clearBlock_30 c0 a1 go a2 S = some q := h
  unfold lb_Mo_clearBlock_30 at h
  refine g_iloadn (pc := 30) (i0 := 2) (j := 2) (dK D_Mo_clearBlock 18 rfl) rfl rfl ?_
  refine vg_bipush (pc := 31) (dK D_Mo_clearBlock 19 rfl) rfl ?_
  refine vg_icmp_ge (pc := 33) (t := 61) (dK D_Mo_clearBlock 20 rfl) rfl ha2 (inRk rfl) (fun hc9 => ?_) (fun hc9 => ?_)
  · replace h := ifP h hc9
    obtain rfl := Option.some.inj h
    refine gL_weak (ls' := []) sbn ?_
    exact hx 
  · replace h := ifN h hc9
    refine g_aloadn (pc := 36) (i0 := 0) (j := 0) (dK D_Mo_clearBlock 21 rfl) rfl rfl ?_
    refine vg_getA (pc := 37) (ci := 11) (f := 0) (dK D_Mo_clearBlock 22 rfl) q_1442 hc0 (ltK rfl) (ltK rfl) rfl ?_
    refine vg_sipush (pc := 40) (dK D_Mo_clearBlock 23 rfl) rfl ?_
    refine g_iloadn (pc := 43) (i0 := 1) (j := 1) (dK D_Mo_clearBlock 24 rfl) rfl rfl ?_
    refine vg_imul (pc := 44) (dK D_Mo_clearBlock 25 rfl) ?_
    refine vg_iconst (pc := 45) (dK D_Mo_clearBlock 26 rfl) ?_
    refine vg_iadd (pc := 46) (dK D_Mo_clearBlock 27 rfl) ?_
    refine vg_iconst (pc := 47) (dK D_Mo_clearBlock 28 rfl) ?_
    refine g_iloadn (pc := 48) (i0 := 2) (j := 2) (dK D_Mo_clearBlock 29 rfl) rfl rfl ?_
    refine vg_imul (pc := 49) (dK D_Mo_clearBlock 30 rfl) ?_
    refine vg_iadd (pc := 50) (dK D_Mo_clearBlock 31 rfl) ?_
    refine vg_iconst (pc := 51) (dK D_Mo_clearBlock 32 rfl) ?_
    refine vg_iadd (pc := 52) (dK D_Mo_clearBlock 33 rfl) ?_
    refine vg_iconst (pc := 53) (dK D_Mo_clearBlock 34 rfl) ?_
    refine gdE h (fun hi6 h => ?_)
    refine nmE h (fun S7 e_S7 h => ?_)
    refine vg_iastore (pc := 54) (z := (-1)) (dK D_Mo_clearBlock 35 rfl) (hw_11_0 hc0) rfl hi6 rfl e_S7 ?_
    refine nmE h (fun v8 e_v8 h => ?_)
    refine vg_iinc (pc := 55) (j := 2) (a := a2) (z := 1) (ls2 := [(2, V v8), (0, .ref c0), (1, V a1)]) (dK D_Mo_clearBlock 36 rfl) rfl e_v8 (ltK rfl) rfl ?_
    refine g_goto (pc := 58) (tgt := 30) (dK D_Mo_clearBlock 37 rfl) rfl ?_
    refine gL_weak (ls' := [(0, .ref c0), (1, V a1), (2, V v8)]) (sbc 1 rfl (sbc 2 rfl (sbc 0 rfl sbn))) ?_
    replace h := ih _ h
    exact h (Vn_in e_v8)
def fn_Mo_clearBlock (c0 : Nat) (a1 : Int) (S : St) : Option (St) := bnO (lo_Mo_clearBlock_2 c0 a1 FU (0, S)) fun p5 => bnO (lo_Mo_clearBlock_30 c0 a1 FU (0, p5)) fun p10 => some p10
theorem tf_Mo_clearBlock {E : EV} {X : XT} {c0 : Nat} (hc0 : HC X 11 c0) {a1 : Int} (ha1 : inR a1) {S : St} {q : St} (h : fn_Mo_clearBlock c0 a1 S = some q) : Ev E M_Mo_clearBlock [.ref c0, V a1] (WX X S) 0 0 (KU X q) := by
  refine Ev.of pn_Mo rfl (leK rfl) ?_
  show Go E M_Mo_clearBlock 0 0 0 [(0, .ref c0), (1, V a1)] [] (WX X S) 0 0 (KU X q)
  unfold fn_Mo_clearBlock at h
  refine vg_iconst (pc := 0) (dK D_Mo_clearBlock 0 rfl) ?_
  refine g_istoren (pc := 1) (i0 := 2) (ls2 := [(2, V 0), (0, .ref c0), (1, V a1)]) (dK D_Mo_clearBlock 1 rfl) rfl (ltK rfl) rfl ?_
  refine bnE h (fun p5 e_p5 h => ?_)
  refine gL_weak (ls' := [(0, .ref c0), (1, V a1), (2, V 0)]) (sbc 1 rfl (sbc 2 rfl (sbc 0 rfl sbn))) ?_
  refine tl_Mo_clearBlock_2 hc0 ha1 ?_ FU (0, S) e_p5 (inRk rfl)
  refine vg_iconst (pc := 28) (dK D_Mo_clearBlock 16 rfl) ?_
  refine g_istoren (pc := 29) (i0 := 2) (ls2 := [(2, V 0), (0, .ref c0), (1, V a1)]) (dK D_Mo_clearBlock 17 rfl) rfl (ltK rfl) rfl ?_
  refine bnE h (fun p10 e_p10 h => ?_)
  refine gL_weak (ls' := [(0, .ref c0), (1, V a1), (2, V 0)]) (sbc 1 rfl (sbc 2 rfl (sbc 0 rfl sbn))) ?_
  refine tl_Mo_clearBlock_30 hc0 ha1 ?_ FU (0, p5) e_p10 (inRk rfl)
  exact g_return (pc := 61) (dK D_Mo_clearBlock 38 rfl) rfl (leK rfl) (leK rfl) (fun _ => rfl) (by obtain rfl := Option.some.inj h; exact ⟨rfl, rfl⟩)
def fn_Mo_thrown (c0 : Nat) (S : St) : Option (Int) := some (g S c0 4)
theorem tf_Mo_thrown {E : EV} {X : XT} {c0 : Nat} (hc0 : HC X 11 c0) {S : St} {q : Int} (h : fn_Mo_thrown c0 S = some q) : Ev E M_Mo_thrown [.ref c0] (WX X S) 0 0 (KI X q S) := by
  refine Ev.of pn_Mo rfl (leK rfl) ?_
  show Go E M_Mo_thrown 0 0 0 [(0, .ref c0)] [] (WX X S) 0 0 (KI X q S)
  unfold fn_Mo_thrown at h
  refine g_aloadn (pc := 0) (i0 := 0) (j := 0) (dK D_Mo_thrown 0 rfl) rfl rfl ?_
  refine vg_getI (pc := 1) (ci := 11) (f := 4) (dK D_Mo_thrown 1 rfl) q_1446 hc0 (ltK rfl) (ltK rfl) rfl ?_
  exact vg_iretI (pc := 4) (r := (g S c0 4)) (dK D_Mo_thrown 2 rfl) rfl (leK rfl) (leK rfl) (fun _ => rfl) (by obtain rfl := Option.some.inj h; exact ⟨rfl, (g_in _ _ _), rfl⟩)
def lb_Mo_copyBlock_2 (c0 : Nat) (a1 : Int) (a2 : Int) (go : Int × St → Option (St)) (a3 : Int) (S : St) : Option (St) := if 380 ≤ a3 then (some S) else (if 0 ≤ ((380 * a1) + a3) ∧ ((380 * a1) + a3) < 8740 then (if 0 ≤ ((380 * a2) + a3) ∧ ((380 * a2) + a3) < 8740 then (nm (u S (tgt c0 0) ((((380 * a2) + a3)).toNat) (g S (tgt c0 0) ((((380 * a1) + a3)).toNat))) fun S3 => nm (wr (a3 + 1)) fun v4 => go (v4, S3)) else none) else none)
def lo_Mo_copyBlock_2 (c0 : Nat) (a1 : Int) (a2 : Int) : Nat → Int × St → Option (St) := lp fun go p => lb_Mo_copyBlock_2 c0 a1 a2 go p.1 p.2
theorem tl_Mo_copyBlock_2 {E : EV} {X : XT} {c0 : Nat} (hc0 : HC X 11 c0) {a1 : Int} (ha1 : inR a1) {a2 : Int} (ha2 : inR a2) {K : RK → PS → Prop} {q : St} (hx : Go E M_Mo_copyBlock 0 0 39 [] [] (WX X q) 0 0 K) : ∀ n a, lo_Mo_copyBlock_2 c0 a1 a2 n a = some q → inR a.1 → Go E M_Mo_copyBlock 0 0 2 [(0, .ref c0), (1, V a1), (2, V a2), (3, V a.1)] [] (WX X a.2) 0 0 K := by
  refine lp_ind (P := fun a : Int × St => inR a.1 → Go E M_Mo_copyBlock 0 0 2 [(0, .ref c0), (1, V a1), (2, V a2), (3, V a.1)] [] (WX X a.2) 0 0 K) (fun go ih a h => ?_)
  obtain ⟨a3, S⟩ := a
  intro ha3
  show Go E M_Mo_copyBlock 0 0 2 [(0, .ref c0), (1, V a1), (2, V a2), (3, V a3)] [] (WX X S) 0 0 K
  replace h : lb_Mo_copyBlock_2 c0 a1 a2 go a3 S = some q := h
  unfold lb_Mo_copyBlock_2 at h
  refine g_iloadn (pc := 2) (i0 := 3) (j := 3) (dK D_Mo_copyBlock 2 rfl) rfl rfl ?_
  refine vg_sipush (pc := 3) (dK D_Mo_copyBlock 3 rfl) rfl ?_
  refine vg_icmp_ge (pc := 6) (t := 39) (dK D_Mo_copyBlock 4 rfl) rfl ha3 (inRk rfl) (fun hc5 => ?_) (fun hc5 => ?_)
  · replace h := ifP h hc5
    obtain rfl := Option.some.inj h
    refine gL_weak (ls' := []) sbn ?_
    exact hx 
  · replace h := ifN h hc5
    refine g_aloadn (pc := 9) (i0 := 0) (j := 0) (dK D_Mo_copyBlock 5 rfl) rfl rfl ?_
    refine vg_getA (pc := 10) (ci := 11) (f := 0) (dK D_Mo_copyBlock 6 rfl) q_1442 hc0 (ltK rfl) (ltK rfl) rfl ?_
    refine vg_sipush (pc := 13) (dK D_Mo_copyBlock 7 rfl) rfl ?_
    refine g_iloadn (pc := 16) (i0 := 2) (j := 2) (dK D_Mo_copyBlock 8 rfl) rfl rfl ?_
    refine vg_imul (pc := 17) (dK D_Mo_copyBlock 9 rfl) ?_
    refine g_iloadn (pc := 18) (i0 := 3) (j := 3) (dK D_Mo_copyBlock 10 rfl) rfl rfl ?_
    refine vg_iadd (pc := 19) (dK D_Mo_copyBlock 11 rfl) ?_
    refine g_aloadn (pc := 20) (i0 := 0) (j := 0) (dK D_Mo_copyBlock 12 rfl) rfl rfl ?_
    refine vg_getA (pc := 21) (ci := 11) (f := 0) (dK D_Mo_copyBlock 13 rfl) q_1442 hc0 (ltK rfl) (ltK rfl) rfl ?_
    refine vg_sipush (pc := 24) (dK D_Mo_copyBlock 14 rfl) rfl ?_
    refine g_iloadn (pc := 27) (i0 := 1) (j := 1) (dK D_Mo_copyBlock 15 rfl) rfl rfl ?_
    refine vg_imul (pc := 28) (dK D_Mo_copyBlock 16 rfl) ?_
    refine g_iloadn (pc := 29) (i0 := 3) (j := 3) (dK D_Mo_copyBlock 17 rfl) rfl rfl ?_
    refine vg_iadd (pc := 30) (dK D_Mo_copyBlock 18 rfl) ?_
    refine gdE h (fun hi1 h => ?_)
    refine vg_iaload (pc := 31) (j := (((380 * a1) + a3)).toNat) (dK D_Mo_copyBlock 19 rfl) (hw_11_0 hc0) rfl hi1 rfl ?_
    refine gdE h (fun hi2 h => ?_)
    refine nmE h (fun S3 e_S3 h => ?_)
    refine vg_iastore (pc := 32) (z := (g S (tgt c0 0) ((((380 * a1) + a3)).toNat))) (dK D_Mo_copyBlock 20 rfl) (hw_11_0 hc0) rfl hi2 rfl e_S3 ?_
    refine nmE h (fun v4 e_v4 h => ?_)
    refine vg_iinc (pc := 33) (j := 3) (a := a3) (z := 1) (ls2 := [(3, V v4), (0, .ref c0), (1, V a1), (2, V a2)]) (dK D_Mo_copyBlock 21 rfl) rfl e_v4 (ltK rfl) rfl ?_
    refine g_goto (pc := 36) (tgt := 2) (dK D_Mo_copyBlock 22 rfl) rfl ?_
    refine gL_weak (ls' := [(0, .ref c0), (1, V a1), (2, V a2), (3, V v4)]) (sbc 1 rfl (sbc 2 rfl (sbc 3 rfl (sbc 0 rfl sbn)))) ?_
    replace h := ih _ h
    exact h (Vn_in e_v4)
def fn_Mo_copyBlock (c0 : Nat) (a1 : Int) (a2 : Int) (S : St) : Option (St) := bnO (lo_Mo_copyBlock_2 c0 a1 a2 FU (0, S)) fun p6 => some p6
theorem tf_Mo_copyBlock {E : EV} {X : XT} {c0 : Nat} (hc0 : HC X 11 c0) {a1 : Int} (ha1 : inR a1) {a2 : Int} (ha2 : inR a2) {S : St} {q : St} (h : fn_Mo_copyBlock c0 a1 a2 S = some q) : Ev E M_Mo_copyBlock [.ref c0, V a1, V a2] (WX X S) 0 0 (KU X q) := by
  refine Ev.of pn_Mo rfl (leK rfl) ?_
  show Go E M_Mo_copyBlock 0 0 0 [(0, .ref c0), (1, V a1), (2, V a2)] [] (WX X S) 0 0 (KU X q)
  unfold fn_Mo_copyBlock at h
  refine vg_iconst (pc := 0) (dK D_Mo_copyBlock 0 rfl) ?_
  refine g_istoren (pc := 1) (i0 := 3) (ls2 := [(3, V 0), (0, .ref c0), (1, V a1), (2, V a2)]) (dK D_Mo_copyBlock 1 rfl) rfl (ltK rfl) rfl ?_
  refine bnE h (fun p6 e_p6 h => ?_)
  refine gL_weak (ls' := [(0, .ref c0), (1, V a1), (2, V a2), (3, V 0)]) (sbc 1 rfl (sbc 2 rfl (sbc 3 rfl (sbc 0 rfl sbn)))) ?_
  refine tl_Mo_copyBlock_2 hc0 ha1 ha2 ?_ FU (0, S) e_p6 (inRk rfl)
  exact g_return (pc := 39) (dK D_Mo_copyBlock 23 rfl) rfl (leK rfl) (leK rfl) (fun _ => rfl) (by obtain rfl := Option.some.inj h; exact ⟨rfl, rfl⟩)
def fn_Mo_undo (c0 : Nat) (S : St) : Option (Bool × St) := nm (u S c0 4 0) fun S1 => if (g S1 c0 3) = 0 then (some (false, S1)) else (nm (u S1 c0 3 ((g S1 c0 3) - 1)) fun S2 => nm (wr (3 + (g S2 c0 3))) fun v3 => bnO (fn_Mo_copyBlock c0 v3 0 S2) fun p4 => some (true, p4))
theorem tf_Mo_undo {E : EV} {X : XT} {c0 : Nat} (hc0 : HC X 11 c0) {S : St} {q : Bool × St} (h : fn_Mo_undo c0 S = some q) : Ev E M_Mo_undo [.ref c0] (WX X S) 0 0 (KB X q.1 q.2) := by
  refine Ev.of pn_Mo rfl (leK rfl) ?_
  show Go E M_Mo_undo 0 0 0 [(0, .ref c0)] [] (WX X S) 0 0 (KB X q.1 q.2)
  unfold fn_Mo_undo at h
  refine g_aloadn (pc := 0) (i0 := 0) (j := 0) (dK D_Mo_undo 0 rfl) rfl rfl ?_
  refine vg_iconst (pc := 1) (dK D_Mo_undo 1 rfl) ?_
  refine nmE h (fun S1 e_S1 h => ?_)
  refine vg_putI (pc := 2) (ci := 11) (f := 4) (z := 0) (dK D_Mo_undo 2 rfl) q_1446 hc0 (ltK rfl) (ltK rfl) rfl rfl e_S1 ?_
  refine g_aloadn (pc := 5) (i0 := 0) (j := 0) (dK D_Mo_undo 3 rfl) rfl rfl ?_
  refine vg_getI (pc := 6) (ci := 11) (f := 3) (dK D_Mo_undo 4 rfl) q_1445 hc0 (ltK rfl) (ltK rfl) rfl ?_
  refine vg_if_ne (pc := 9) (t := 14) (dK D_Mo_undo 5 rfl) rfl (g_in _ _ _) (fun hc5 => ?_) (fun hc5 => ?_)
  · replace h := ifN h hc5
    refine g_aloadn (pc := 14) (i0 := 0) (j := 0) (dK D_Mo_undo 8 rfl) rfl rfl ?_
    refine g_dup (pc := 15) (dK D_Mo_undo 9 rfl) rfl ?_
    refine vg_getI (pc := 16) (ci := 11) (f := 3) (dK D_Mo_undo 10 rfl) q_1445 hc0 (ltK rfl) (ltK rfl) rfl ?_
    refine vg_iconst (pc := 19) (dK D_Mo_undo 11 rfl) ?_
    refine vg_isub (pc := 20) (dK D_Mo_undo 12 rfl) ?_
    refine nmE h (fun S2 e_S2 h => ?_)
    refine vg_putI (pc := 21) (ci := 11) (f := 3) (z := ((g S1 c0 3) - 1)) (dK D_Mo_undo 13 rfl) q_1445 hc0 (ltK rfl) (ltK rfl) rfl rfl e_S2 ?_
    refine g_aloadn (pc := 24) (i0 := 0) (j := 0) (dK D_Mo_undo 14 rfl) rfl rfl ?_
    refine vg_iconst (pc := 25) (dK D_Mo_undo 15 rfl) ?_
    refine g_aloadn (pc := 26) (i0 := 0) (j := 0) (dK D_Mo_undo 16 rfl) rfl rfl ?_
    refine vg_getI (pc := 27) (ci := 11) (f := 3) (dK D_Mo_undo 17 rfl) q_1445 hc0 (ltK rfl) (ltK rfl) rfl ?_
    refine vg_iadd (pc := 30) (dK D_Mo_undo 18 rfl) ?_
    refine vg_iconst (pc := 31) (dK D_Mo_undo 19 rfl) ?_
    refine nmE h (fun v3 e_v3 h => ?_)
    refine gsk (st' := [V 0, V v3, .ref c0]) (by rw [Vn e_v3]) ?_
    refine bnE h (fun p4 e_p4 h => ?_)
    refine vg_cV (pc := 32) (As := [V v3, V 0]) (rest := []) (mc' := 0) (ms' := 0) (dK D_Mo_undo 20 rfl) K_Mo_59 (fitK rfl) (ltK rfl) hc0 rfl (leK rfl) (leK rfl) (leK rfl) (tf_Mo_copyBlock hc0 (Vn_in e_v3) (inRk rfl) e_p4) (kcU ?_)
    refine vg_iconst (pc := 35) (dK D_Mo_undo 21 rfl) ?_
    exact vg_iretB (pc := 36) (b := true) (dK D_Mo_undo 22 rfl) rfl (leK rfl) (leK rfl) (fun _ => rfl) (by obtain rfl := Option.some.inj h; exact ⟨rfl, rfl⟩)
  · replace h := ifP h hc5
    refine vg_iconst (pc := 12) (dK D_Mo_undo 6 rfl) ?_
    exact vg_iretB (pc := 13) (b := false) (dK D_Mo_undo 7 rfl) rfl (leK rfl) (leK rfl) (fun _ => rfl) (by obtain rfl := Option.some.inj h; exact ⟨rfl, rfl⟩)
def fn_Mo_undoCount (c0 : Nat) (S : St) : Option (Int × St) := nm (u S c0 4 0) fun S1 => some ((g S1 c0 3), S1)
theorem tf_Mo_undoCount {E : EV} {X : XT} {c0 : Nat} (hc0 : HC X 11 c0) {S : St} {q : Int × St} (h : fn_Mo_undoCount c0 S = some q) : Ev E M_Mo_undoCount [.ref c0] (WX X S) 0 0 (KI X q.1 q.2) := by
  refine Ev.of pn_Mo rfl (leK rfl) ?_
  show Go E M_Mo_undoCount 0 0 0 [(0, .ref c0)] [] (WX X S) 0 0 (KI X q.1 q.2)
  unfold fn_Mo_undoCount at h
  refine g_aloadn (pc := 0) (i0 := 0) (j := 0) (dK D_Mo_undoCount 0 rfl) rfl rfl ?_
  refine vg_iconst (pc := 1) (dK D_Mo_undoCount 1 rfl) ?_
  refine nmE h (fun S1 e_S1 h => ?_)
  refine vg_putI (pc := 2) (ci := 11) (f := 4) (z := 0) (dK D_Mo_undoCount 2 rfl) q_1446 hc0 (ltK rfl) (ltK rfl) rfl rfl e_S1 ?_
  refine g_aloadn (pc := 5) (i0 := 0) (j := 0) (dK D_Mo_undoCount 3 rfl) rfl rfl ?_
  refine vg_getI (pc := 6) (ci := 11) (f := 3) (dK D_Mo_undoCount 4 rfl) q_1445 hc0 (ltK rfl) (ltK rfl) rfl ?_
  exact vg_iretI (pc := 9) (r := (g S1 c0 3)) (dK D_Mo_undoCount 5 rfl) rfl (leK rfl) (leK rfl) (fun _ => rfl) (by obtain rfl := Option.some.inj h; exact ⟨rfl, (g_in _ _ _), rfl⟩)
def fn_Mo_inRange (a0 : Int) (a2 : Int) (a4 : Int) (S : St) : Option (Bool) := if a0 < a2 then (some false) else (if a4 < a0 then (some false) else (some true))
theorem tf_Mo_inRange {E : EV} {X : XT} {a0 : Int} (ha0 : inL a0) {a2 : Int} (ha2 : inL a2) {a4 : Int} (ha4 : inL a4) {S : St} {q : Bool} (h : fn_Mo_inRange a0 a2 a4 S = some q) : Ev E M_Mo_inRange [J a0, J a2, J a4] (WX X S) 0 0 (KB X q S) := by
  refine Ev.of pn_Mo rfl (leK rfl) ?_
  show Go E M_Mo_inRange 0 0 0 [(0, J a0), (2, J a2), (4, J a4)] [] (WX X S) 0 0 (KB X q S)
  unfold fn_Mo_inRange at h
  refine g_lloadn (pc := 0) (i0 := 0) (j := 0) (dK D_Mo_inRange 0 rfl) rfl rfl ?_
  refine g_lloadn (pc := 1) (i0 := 2) (j := 1) (dK D_Mo_inRange 1 rfl) rfl rfl ?_
  refine vg_lcmp_lt (pc := 2) (t := 17) (dK D_Mo_inRange 2 rfl) (dK D_Mo_inRange 3 rfl) rfl ha0 ha2 (fun hc2 => ?_) (fun hc2 => ?_)
  · replace h := ifP h hc2
    refine vg_iconst (pc := 17) (dK D_Mo_inRange 10 rfl) ?_
    exact vg_iretB (pc := 18) (b := false) (dK D_Mo_inRange 11 rfl) rfl (leK rfl) (leK rfl) (fun _ => rfl) (by obtain rfl := Option.some.inj h; exact ⟨rfl, rfl⟩)
  · replace h := ifN h hc2
    refine g_lloadn (pc := 6) (i0 := 0) (j := 0) (dK D_Mo_inRange 4 rfl) rfl rfl ?_
    refine g_lload (pc := 7) (j := 2) (dK D_Mo_inRange 5 rfl) rfl ?_
    refine vg_lcmp_gt (pc := 9) (t := 17) (dK D_Mo_inRange 6 rfl) (dK D_Mo_inRange 7 rfl) rfl ha0 ha4 (fun hc1 => ?_) (fun hc1 => ?_)
    · replace h := ifP h hc1
      refine vg_iconst (pc := 17) (dK D_Mo_inRange 10 rfl) ?_
      exact vg_iretB (pc := 18) (b := false) (dK D_Mo_inRange 11 rfl) rfl (leK rfl) (leK rfl) (fun _ => rfl) (by obtain rfl := Option.some.inj h; exact ⟨rfl, rfl⟩)
    · replace h := ifN h hc1
      refine vg_iconst (pc := 13) (dK D_Mo_inRange 8 rfl) ?_
      refine g_goto (pc := 14) (tgt := 18) (dK D_Mo_inRange 9 rfl) rfl ?_
      exact vg_iretB (pc := 18) (b := true) (dK D_Mo_inRange 11 rfl) rfl (leK rfl) (leK rfl) (fun _ => rfl) (by obtain rfl := Option.some.inj h; exact ⟨rfl, rfl⟩)
def fn_Mo_isAd (c0 : Nat) (a1 : Int) (S : St) : Option (Bool) := nm (wr ((g S (tgt c0 0) 1) - 1)) fun v1 => bnO (fn_Mo_inRange a1 0 v1 S) fun p2 => some p2
theorem tf_Mo_isAd {E : EV} {X : XT} {c0 : Nat} (hc0 : HC X 11 c0) {a1 : Int} (ha1 : inR a1) {S : St} {q : Bool} (h : fn_Mo_isAd c0 a1 S = some q) : Ev E M_Mo_isAd [.ref c0, V a1] (WX X S) 0 0 (KB X q S) := by
  refine Ev.of pn_Mo rfl (leK rfl) ?_
  show Go E M_Mo_isAd 0 0 0 [(0, .ref c0), (1, V a1)] [] (WX X S) 0 0 (KB X q S)
  unfold fn_Mo_isAd at h
  refine g_iloadn (pc := 0) (i0 := 1) (j := 1) (dK D_Mo_isAd 0 rfl) rfl rfl ?_
  refine vg_i2l (pc := 1) (dK D_Mo_isAd 1 rfl) ha1 ?_
  refine vg_lconst (pc := 2) (y := 0) (dK D_Mo_isAd 2 rfl) rfl ?_
  refine g_aloadn (pc := 3) (i0 := 0) (j := 0) (dK D_Mo_isAd 3 rfl) rfl rfl ?_
  refine vg_getA (pc := 4) (ci := 11) (f := 0) (dK D_Mo_isAd 4 rfl) q_1442 hc0 (ltK rfl) (ltK rfl) rfl ?_
  refine vg_iconst (pc := 7) (dK D_Mo_isAd 5 rfl) ?_
  refine vg_iaload (pc := 8) (j := 1) (dK D_Mo_isAd 6 rfl) (hw_11_0 hc0) rfl ⟨by decide, by decide⟩ rfl ?_
  refine vg_iconst (pc := 9) (dK D_Mo_isAd 7 rfl) ?_
  refine vg_isub (pc := 10) (dK D_Mo_isAd 8 rfl) ?_
  refine nmE h (fun v1 e_v1 h => ?_)
  refine gtop e_v1 ?_
  refine vg_i2l (pc := 11) (dK D_Mo_isAd 9 rfl) (Vn_in e_v1) ?_
  refine bnE h (fun p2 e_p2 h => ?_)
  refine vg_cS (pc := 12) (As := [J a1, J 0, J v1]) (rest := []) (mc' := 0) (ms' := 0) (dK D_Mo_isAd 10 rfl) K_Mo_67 (fitK rfl) rfl (leK rfl) (leK rfl) (leK rfl) (tf_Mo_inRange (inR_L ha1) (inLk rfl) (inR_L (Vn_in e_v1)) e_p2) (kcB ?_)
  exact vg_iretB (pc := 15) (b := p2) (dK D_Mo_isAd 11 rfl) rfl (leK rfl) (leK rfl) (fun _ => rfl) (by obtain rfl := Option.some.inj h; exact ⟨rfl, rfl⟩)
def fn_Mo_throwsIf (c0 : Nat) (a1 : Int) (a2 : Int) (S : St) : Option (Bool × St) := if a1 = 0 then (if a1 = 0 ∨ a1 = 1 then (some ((decide (a1 = 1)), S)) else none) else (nm (u S c0 4 a2) fun S2 => if a1 = 0 ∨ a1 = 1 then (some ((decide (a1 = 1)), S2)) else none)
theorem tf_Mo_throwsIf {E : EV} {X : XT} {c0 : Nat} (hc0 : HC X 11 c0) {a1 : Int} (ha1 : inR a1) {a2 : Int} (ha2 : inR a2) {S : St} {q : Bool × St} (h : fn_Mo_throwsIf c0 a1 a2 S = some q) : Ev E M_Mo_throwsIf [.ref c0, V a1, V a2] (WX X S) 0 0 (KB X q.1 q.2) := by
  refine Ev.of pn_Mo rfl (leK rfl) ?_
  show Go E M_Mo_throwsIf 0 0 0 [(0, .ref c0), (1, V a1), (2, V a2)] [] (WX X S) 0 0 (KB X q.1 q.2)
  unfold fn_Mo_throwsIf at h
  refine g_iloadn (pc := 0) (i0 := 1) (j := 1) (dK D_Mo_throwsIf 0 rfl) rfl rfl ?_
  refine vg_if_eq (pc := 1) (t := 9) (dK D_Mo_throwsIf 1 rfl) rfl ha1 (fun hc4 => ?_) (fun hc4 => ?_)
  · replace h := ifP h hc4
    refine g_iloadn (pc := 9) (i0 := 1) (j := 1) (dK D_Mo_throwsIf 5 rfl) rfl rfl ?_
    refine gdE h (fun hb1 h => ?_)
    refine gsk (st' := [V (bi (decide (a1 = 1)))]) (congrArg (fun z => [z]) (V_bi hb1).symm) ?_
    exact vg_iretB (pc := 10) (b := (decide (a1 = 1))) (dK D_Mo_throwsIf 6 rfl) rfl (leK rfl) (leK rfl) (fun _ => rfl) (by obtain rfl := Option.some.inj h; exact ⟨rfl, rfl⟩)
  · replace h := ifN h hc4
    refine g_aloadn (pc := 4) (i0 := 0) (j := 0) (dK D_Mo_throwsIf 2 rfl) rfl rfl ?_
    refine g_iloadn (pc := 5) (i0 := 2) (j := 2) (dK D_Mo_throwsIf 3 rfl) rfl rfl ?_
    refine nmE h (fun S2 e_S2 h => ?_)
    refine vg_putI (pc := 6) (ci := 11) (f := 4) (z := a2) (dK D_Mo_throwsIf 4 rfl) q_1446 hc0 (ltK rfl) (ltK rfl) rfl rfl e_S2 ?_
    refine g_iloadn (pc := 9) (i0 := 1) (j := 1) (dK D_Mo_throwsIf 5 rfl) rfl rfl ?_
    refine gdE h (fun hb3 h => ?_)
    refine gsk (st' := [V (bi (decide (a1 = 1)))]) (congrArg (fun z => [z]) (V_bi hb3).symm) ?_
    exact vg_iretB (pc := 10) (b := (decide (a1 = 1))) (dK D_Mo_throwsIf 6 rfl) rfl (leK rfl) (leK rfl) (fun _ => rfl) (by obtain rfl := Option.some.inj h; exact ⟨rfl, rfl⟩)
def fn_Mo_pageMany (c0 : Nat) (S : St) : Option (Int) := some (wr ((g S c0 1) * (g S c0 2)))
theorem tf_Mo_pageMany {E : EV} {X : XT} {c0 : Nat} (hc0 : HC X 11 c0) {S : St} {q : Int} (h : fn_Mo_pageMany c0 S = some q) : Ev E M_Mo_pageMany [.ref c0] (WX X S) 0 0 (KI X q S) := by
  refine Ev.of pn_Mo rfl (leK rfl) ?_
  show Go E M_Mo_pageMany 0 0 0 [(0, .ref c0)] [] (WX X S) 0 0 (KI X q S)
  unfold fn_Mo_pageMany at h
  refine g_aloadn (pc := 0) (i0 := 0) (j := 0) (dK D_Mo_pageMany 0 rfl) rfl rfl ?_
  refine vg_getI (pc := 1) (ci := 11) (f := 1) (dK D_Mo_pageMany 1 rfl) q_1443 hc0 (ltK rfl) (ltK rfl) rfl ?_
  refine g_aloadn (pc := 4) (i0 := 0) (j := 0) (dK D_Mo_pageMany 2 rfl) rfl rfl ?_
  refine vg_getI (pc := 5) (ci := 11) (f := 2) (dK D_Mo_pageMany 3 rfl) q_1444 hc0 (ltK rfl) (ltK rfl) rfl ?_
  refine vg_imul (pc := 8) (dK D_Mo_pageMany 4 rfl) ?_
  refine gtop (x := (wr ((g S c0 1) * (g S c0 2)))) rfl ?_
  exact vg_iretI (pc := 9) (r := (wr ((g S c0 1) * (g S c0 2)))) (dK D_Mo_pageMany 5 rfl) rfl (leK rfl) (leK rfl) (fun _ => rfl) (by obtain rfl := Option.some.inj h; exact ⟨rfl, (wr_in _), rfl⟩)
def fn_Mo_isPage (c0 : Nat) (a1 : Int) (S : St) : Option (Bool) := bnO (fn_Mo_pageMany c0 S) fun p1 => bnO (fn_Mo_inRange a1 1 p1 S) fun p2 => some p2
theorem tf_Mo_isPage {E : EV} {X : XT} {c0 : Nat} (hc0 : HC X 11 c0) {a1 : Int} (ha1 : inR a1) {S : St} {q : Bool} (h : fn_Mo_isPage c0 a1 S = some q) : Ev E M_Mo_isPage [.ref c0, V a1] (WX X S) 0 0 (KB X q S) := by
  refine Ev.of pn_Mo rfl (leK rfl) ?_
  show Go E M_Mo_isPage 0 0 0 [(0, .ref c0), (1, V a1)] [] (WX X S) 0 0 (KB X q S)
  unfold fn_Mo_isPage at h
  refine g_iloadn (pc := 0) (i0 := 1) (j := 1) (dK D_Mo_isPage 0 rfl) rfl rfl ?_
  refine vg_i2l (pc := 1) (dK D_Mo_isPage 1 rfl) ha1 ?_
  refine vg_lconst (pc := 2) (y := 1) (dK D_Mo_isPage 2 rfl) rfl ?_
  refine g_aloadn (pc := 3) (i0 := 0) (j := 0) (dK D_Mo_isPage 3 rfl) rfl rfl ?_
  refine bnE h (fun p1 e_p1 h => ?_)
  refine vg_cV (pc := 4) (As := []) (rest := [J 1, J a1]) (mc' := 0) (ms' := 0) (dK D_Mo_isPage 4 rfl) K_Mo_63 (fitK rfl) (ltK rfl) hc0 rfl (leK rfl) (leK rfl) (leK rfl) (tf_Mo_pageMany hc0 e_p1) (kcI (fun h_p1 => ?_))
  refine vg_i2l (pc := 7) (dK D_Mo_isPage 5 rfl) h_p1 ?_
  refine bnE h (fun p2 e_p2 h => ?_)
  refine vg_cS (pc := 8) (As := [J a1, J 1, J p1]) (rest := []) (mc' := 0) (ms' := 0) (dK D_Mo_isPage 6 rfl) K_Mo_67 (fitK rfl) rfl (leK rfl) (leK rfl) (leK rfl) (tf_Mo_inRange (inR_L ha1) (inLk rfl) (inR_L h_p1) e_p2) (kcB ?_)
  exact vg_iretB (pc := 11) (b := p2) (dK D_Mo_isPage 7 rfl) rfl (leK rfl) (leK rfl) (fun _ => rfl) (by obtain rfl := Option.some.inj h; exact ⟨rfl, rfl⟩)
def fn_Mo_formOf (c0 : Nat) (a1 : Int) (S : St) : Option (Int) := nm (wr (a1 - 1)) fun v1 => if 0 < (g S c0 2) then (nm (wr (v1.tmod (g S c0 2))) fun v3 => nm (wr (v3.tmod 4)) fun v4 => nm (wr (a1 - 1)) fun v5 => if 0 < (g S c0 2) then (if v4 = 0 then (some (wr ((2 * (v5.tdiv (g S c0 2))) + 0))) else (if v4 = 3 then (some (wr ((2 * (v5.tdiv (g S c0 2))) + 0))) else (some (wr ((2 * (v5.tdiv (g S c0 2))) + 1))))) else none) else none
theorem tf_Mo_formOf {E : EV} {X : XT} {c0 : Nat} (hc0 : HC X 11 c0) {a1 : Int} (ha1 : inR a1) {S : St} {q : Int} (h : fn_Mo_formOf c0 a1 S = some q) : Ev E M_Mo_formOf [.ref c0, V a1] (WX X S) 0 0 (KI X q S) := by
  refine Ev.of pn_Mo rfl (leK rfl) ?_
  show Go E M_Mo_formOf 0 0 0 [(0, .ref c0), (1, V a1)] [] (WX X S) 0 0 (KI X q S)
  unfold fn_Mo_formOf at h
  refine g_iloadn (pc := 0) (i0 := 1) (j := 1) (dK D_Mo_formOf 0 rfl) rfl rfl ?_
  refine vg_iconst (pc := 1) (dK D_Mo_formOf 1 rfl) ?_
  refine vg_isub (pc := 2) (dK D_Mo_formOf 2 rfl) ?_
  refine g_aloadn (pc := 3) (i0 := 0) (j := 0) (dK D_Mo_formOf 3 rfl) rfl rfl ?_
  refine vg_getI (pc := 4) (ci := 11) (f := 2) (dK D_Mo_formOf 4 rfl) q_1444 hc0 (ltK rfl) (ltK rfl) rfl ?_
  refine nmE h (fun v1 e_v1 h => ?_)
  refine gsk (st' := [V (g S c0 2), V v1]) (by rw [Vn e_v1]) ?_
  refine gdE h (fun hp2 h => ?_)
  refine vg_irem (pc := 7) (dK D_Mo_formOf 5 rfl) (Vn_in e_v1) (g_in _ _ _) hp2 ?_
  refine vg_iconst (pc := 8) (dK D_Mo_formOf 6 rfl) ?_
  refine nmE h (fun v3 e_v3 h => ?_)
  refine gsk (st' := [V 4, V v3]) (by rw [Vn e_v3]) ?_
  refine vg_irem (pc := 9) (dK D_Mo_formOf 7 rfl) (Vn_in e_v3) (inRk rfl) (by decide) ?_
  refine nmE h (fun v4 e_v4 h => ?_)
  refine gtop e_v4 ?_
  refine g_istoren (pc := 10) (i0 := 2) (ls2 := [(2, V v4), (0, .ref c0), (1, V a1)]) (dK D_Mo_formOf 8 rfl) rfl (ltK rfl) rfl ?_
  refine vg_iconst (pc := 11) (dK D_Mo_formOf 9 rfl) ?_
  refine g_iloadn (pc := 12) (i0 := 1) (j := 2) (dK D_Mo_formOf 10 rfl) rfl rfl ?_
  refine vg_iconst (pc := 13) (dK D_Mo_formOf 11 rfl) ?_
  refine vg_isub (pc := 14) (dK D_Mo_formOf 12 rfl) ?_
  refine g_aloadn (pc := 15) (i0 := 0) (j := 1) (dK D_Mo_formOf 13 rfl) rfl rfl ?_
  refine vg_getI (pc := 16) (ci := 11) (f := 2) (dK D_Mo_formOf 14 rfl) q_1444 hc0 (ltK rfl) (ltK rfl) rfl ?_
  refine nmE h (fun v5 e_v5 h => ?_)
  refine gsk (st' := [V (g S c0 2), V v5, V 2]) (by rw [Vn e_v5]) ?_
  refine gdE h (fun hp6 h => ?_)
  refine vg_idiv (pc := 19) (dK D_Mo_formOf 15 rfl) (Vn_in e_v5) (g_in _ _ _) hp6 ?_
  refine vg_imul (pc := 20) (dK D_Mo_formOf 16 rfl) ?_
  refine g_iloadn (pc := 21) (i0 := 2) (j := 0) (dK D_Mo_formOf 17 rfl) rfl rfl ?_
  refine vg_if_eq (pc := 22) (t := 30) (dK D_Mo_formOf 18 rfl) rfl (Vn_in e_v4) (fun hc8 => ?_) (fun hc8 => ?_)
  · replace h := ifP h hc8
    refine vg_iconst (pc := 30) (dK D_Mo_formOf 22 rfl) ?_
    refine g_goto (pc := 31) (tgt := 35) (dK D_Mo_formOf 23 rfl) rfl ?_
    refine vg_iadd (pc := 35) (dK D_Mo_formOf 25 rfl) ?_
    refine gtop (x := (wr ((2 * (v5.tdiv (g S c0 2))) + 0))) rfl ?_
    exact vg_iretI (pc := 36) (r := (wr ((2 * (v5.tdiv (g S c0 2))) + 0))) (dK D_Mo_formOf 26 rfl) rfl (leK rfl) (leK rfl) (fun _ => rfl) (by obtain rfl := Option.some.inj h; exact ⟨rfl, (wr_in _), rfl⟩)
  · replace h := ifN h hc8
    refine g_iloadn (pc := 25) (i0 := 2) (j := 0) (dK D_Mo_formOf 19 rfl) rfl rfl ?_
    refine vg_iconst (pc := 26) (dK D_Mo_formOf 20 rfl) ?_
    refine vg_icmp_ne (pc := 27) (t := 34) (dK D_Mo_formOf 21 rfl) rfl (Vn_in e_v4) (inRk rfl) (fun hc7 => ?_) (fun hc7 => ?_)
    · replace h := ifN h hc7
      refine vg_iconst (pc := 34) (dK D_Mo_formOf 24 rfl) ?_
      refine vg_iadd (pc := 35) (dK D_Mo_formOf 25 rfl) ?_
      refine gtop (x := (wr ((2 * (v5.tdiv (g S c0 2))) + 1))) rfl ?_
      exact vg_iretI (pc := 36) (r := (wr ((2 * (v5.tdiv (g S c0 2))) + 1))) (dK D_Mo_formOf 26 rfl) rfl (leK rfl) (leK rfl) (fun _ => rfl) (by obtain rfl := Option.some.inj h; exact ⟨rfl, (wr_in _), rfl⟩)
    · replace h := ifP h hc7
      refine vg_iconst (pc := 30) (dK D_Mo_formOf 22 rfl) ?_
      refine g_goto (pc := 31) (tgt := 35) (dK D_Mo_formOf 23 rfl) rfl ?_
      refine vg_iadd (pc := 35) (dK D_Mo_formOf 25 rfl) ?_
      refine gtop (x := (wr ((2 * (v5.tdiv (g S c0 2))) + 0))) rfl ?_
      exact vg_iretI (pc := 36) (r := (wr ((2 * (v5.tdiv (g S c0 2))) + 0))) (dK D_Mo_formOf 26 rfl) rfl (leK rfl) (leK rfl) (fun _ => rfl) (by obtain rfl := Option.some.inj h; exact ⟨rfl, (wr_in _), rfl⟩)
def fn_Mo_ofForm (c0 : Nat) (a1 : Int) (a2 : Int) (S : St) : Option (Int) := if 0 ≤ ((5 + (3 * a1)) + a2) ∧ ((5 + (3 * a1)) + a2) < 8740 then (some (g S (tgt c0 0) ((((5 + (3 * a1)) + a2)).toNat))) else none
theorem tf_Mo_ofForm {E : EV} {X : XT} {c0 : Nat} (hc0 : HC X 11 c0) {a1 : Int} (ha1 : inR a1) {a2 : Int} (ha2 : inR a2) {S : St} {q : Int} (h : fn_Mo_ofForm c0 a1 a2 S = some q) : Ev E M_Mo_ofForm [.ref c0, V a1, V a2] (WX X S) 0 0 (KI X q S) := by
  refine Ev.of pn_Mo rfl (leK rfl) ?_
  show Go E M_Mo_ofForm 0 0 0 [(0, .ref c0), (1, V a1), (2, V a2)] [] (WX X S) 0 0 (KI X q S)
  unfold fn_Mo_ofForm at h
  refine g_aloadn (pc := 0) (i0 := 0) (j := 0) (dK D_Mo_ofForm 0 rfl) rfl rfl ?_
  refine vg_getA (pc := 1) (ci := 11) (f := 0) (dK D_Mo_ofForm 1 rfl) q_1442 hc0 (ltK rfl) (ltK rfl) rfl ?_
  refine vg_iconst (pc := 4) (dK D_Mo_ofForm 2 rfl) ?_
  refine vg_iconst (pc := 5) (dK D_Mo_ofForm 3 rfl) ?_
  refine g_iloadn (pc := 6) (i0 := 1) (j := 1) (dK D_Mo_ofForm 4 rfl) rfl rfl ?_
  refine vg_imul (pc := 7) (dK D_Mo_ofForm 5 rfl) ?_
  refine vg_iadd (pc := 8) (dK D_Mo_ofForm 6 rfl) ?_
  refine g_iloadn (pc := 9) (i0 := 2) (j := 2) (dK D_Mo_ofForm 7 rfl) rfl rfl ?_
  refine vg_iadd (pc := 10) (dK D_Mo_ofForm 8 rfl) ?_
  refine gdE h (fun hi1 h => ?_)
  refine vg_iaload (pc := 11) (j := (((5 + (3 * a1)) + a2)).toNat) (dK D_Mo_ofForm 9 rfl) (hw_11_0 hc0) rfl hi1 rfl ?_
  exact vg_iretI (pc := 12) (r := (g S (tgt c0 0) ((((5 + (3 * a1)) + a2)).toNat))) (dK D_Mo_ofForm 10 rfl) rfl (leK rfl) (leK rfl) (fun _ => rfl) (by obtain rfl := Option.some.inj h; exact ⟨rfl, (g_in _ _ _), rfl⟩)
def fn_Mo_isPrinted (c0 : Nat) (a1 : Int) (S : St) : Option (Bool) := bnO (fn_Mo_formOf c0 a1 S) fun p1 => bnO (fn_Mo_ofForm c0 p1 1 S) fun p2 => if p2 = 1 then (some true) else (some false)
theorem tf_Mo_isPrinted {E : EV} {X : XT} {c0 : Nat} (hc0 : HC X 11 c0) {a1 : Int} (ha1 : inR a1) {S : St} {q : Bool} (h : fn_Mo_isPrinted c0 a1 S = some q) : Ev E M_Mo_isPrinted [.ref c0, V a1] (WX X S) 0 0 (KB X q S) := by
  refine Ev.of pn_Mo rfl (leK rfl) ?_
  show Go E M_Mo_isPrinted 0 0 0 [(0, .ref c0), (1, V a1)] [] (WX X S) 0 0 (KB X q S)
  unfold fn_Mo_isPrinted at h
  refine g_aloadn (pc := 0) (i0 := 0) (j := 0) (dK D_Mo_isPrinted 0 rfl) rfl rfl ?_
  refine g_aloadn (pc := 1) (i0 := 0) (j := 0) (dK D_Mo_isPrinted 1 rfl) rfl rfl ?_
  refine g_iloadn (pc := 2) (i0 := 1) (j := 1) (dK D_Mo_isPrinted 2 rfl) rfl rfl ?_
  refine bnE h (fun p1 e_p1 h => ?_)
  refine vg_cV (pc := 3) (As := [V a1]) (rest := [.ref c0]) (mc' := 0) (ms' := 0) (dK D_Mo_isPrinted 3 rfl) K_Mo_74 (fitK rfl) (ltK rfl) hc0 rfl (leK rfl) (leK rfl) (leK rfl) (tf_Mo_formOf hc0 ha1 e_p1) (kcI (fun h_p1 => ?_))
  refine vg_iconst (pc := 6) (dK D_Mo_isPrinted 4 rfl) ?_
  refine bnE h (fun p2 e_p2 h => ?_)
  refine vg_cV (pc := 7) (As := [V p1, V 1]) (rest := []) (mc' := 0) (ms' := 0) (dK D_Mo_isPrinted 5 rfl) K_Mo_78 (fitK rfl) (ltK rfl) hc0 rfl (leK rfl) (leK rfl) (leK rfl) (tf_Mo_ofForm hc0 h_p1 (inRk rfl) e_p2) (kcI (fun h_p2 => ?_))
  refine vg_iconst (pc := 10) (dK D_Mo_isPrinted 6 rfl) ?_
  refine vg_icmp_ne (pc := 11) (t := 18) (dK D_Mo_isPrinted 7 rfl) rfl h_p2 (inRk rfl) (fun hc3 => ?_) (fun hc3 => ?_)
  · replace h := ifN h hc3
    refine vg_iconst (pc := 18) (dK D_Mo_isPrinted 10 rfl) ?_
    exact vg_iretB (pc := 19) (b := false) (dK D_Mo_isPrinted 11 rfl) rfl (leK rfl) (leK rfl) (fun _ => rfl) (by obtain rfl := Option.some.inj h; exact ⟨rfl, rfl⟩)
  · replace h := ifP h hc3
    refine vg_iconst (pc := 14) (dK D_Mo_isPrinted 8 rfl) ?_
    refine g_goto (pc := 15) (tgt := 19) (dK D_Mo_isPrinted 9 rfl) rfl ?_
    exact vg_iretB (pc := 19) (b := true) (dK D_Mo_isPrinted 11 rfl) rfl (leK rfl) (leK rfl) (fun _ => rfl) (by obtain rfl := Option.some.inj h; exact ⟨rfl, rfl⟩)
def fn_Mo_ofStory (c0 : Nat) (a1 : Int) (a2 : Int) (S : St) : Option (Int) := if 0 ≤ ((309 + (5 * a1)) + a2) ∧ ((309 + (5 * a1)) + a2) < 8740 then (some (g S (tgt c0 0) ((((309 + (5 * a1)) + a2)).toNat))) else none
theorem tf_Mo_ofStory {E : EV} {X : XT} {c0 : Nat} (hc0 : HC X 11 c0) {a1 : Int} (ha1 : inR a1) {a2 : Int} (ha2 : inR a2) {S : St} {q : Int} (h : fn_Mo_ofStory c0 a1 a2 S = some q) : Ev E M_Mo_ofStory [.ref c0, V a1, V a2] (WX X S) 0 0 (KI X q S) := by
  refine Ev.of pn_Mo rfl (leK rfl) ?_
  show Go E M_Mo_ofStory 0 0 0 [(0, .ref c0), (1, V a1), (2, V a2)] [] (WX X S) 0 0 (KI X q S)
  unfold fn_Mo_ofStory at h
  refine g_aloadn (pc := 0) (i0 := 0) (j := 0) (dK D_Mo_ofStory 0 rfl) rfl rfl ?_
  refine vg_getA (pc := 1) (ci := 11) (f := 0) (dK D_Mo_ofStory 1 rfl) q_1442 hc0 (ltK rfl) (ltK rfl) rfl ?_
  refine vg_sipush (pc := 4) (dK D_Mo_ofStory 2 rfl) rfl ?_
  refine vg_iconst (pc := 7) (dK D_Mo_ofStory 3 rfl) ?_
  refine g_iloadn (pc := 8) (i0 := 1) (j := 1) (dK D_Mo_ofStory 4 rfl) rfl rfl ?_
  refine vg_imul (pc := 9) (dK D_Mo_ofStory 5 rfl) ?_
  refine vg_iadd (pc := 10) (dK D_Mo_ofStory 6 rfl) ?_
  refine g_iloadn (pc := 11) (i0 := 2) (j := 2) (dK D_Mo_ofStory 7 rfl) rfl rfl ?_
  refine vg_iadd (pc := 12) (dK D_Mo_ofStory 8 rfl) ?_
  refine gdE h (fun hi1 h => ?_)
  refine vg_iaload (pc := 13) (j := (((309 + (5 * a1)) + a2)).toNat) (dK D_Mo_ofStory 9 rfl) (hw_11_0 hc0) rfl hi1 rfl ?_
  exact vg_iretI (pc := 14) (r := (g S (tgt c0 0) ((((309 + (5 * a1)) + a2)).toNat))) (dK D_Mo_ofStory 10 rfl) rfl (leK rfl) (leK rfl) (fun _ => rfl) (by obtain rfl := Option.some.inj h; exact ⟨rfl, (g_in _ _ _), rfl⟩)
def fn_Mo_covers (c0 : Nat) (a1 : Int) (a2 : Int) (S : St) : Option (Bool) := bnO (fn_Mo_ofStory c0 a1 4 S) fun p1 => if p1 ≤ 0 then (some false) else (bnO (fn_Mo_ofStory c0 a1 4 S) fun p2 => bnO (fn_Mo_ofStory c0 a1 4 S) fun p3 => bnO (fn_Mo_ofStory c0 a1 0 S) fun p4 => nm (wr ((p3 + p4) - 1)) fun v5 => bnO (fn_Mo_inRange a2 p2 v5 S) fun p6 => if p6 = true then (some true) else (some false))
theorem tf_Mo_covers {E : EV} {X : XT} {c0 : Nat} (hc0 : HC X 11 c0) {a1 : Int} (ha1 : inR a1) {a2 : Int} (ha2 : inR a2) {S : St} {q : Bool} (h : fn_Mo_covers c0 a1 a2 S = some q) : Ev E M_Mo_covers [.ref c0, V a1, V a2] (WX X S) 0 0 (KB X q S) := by
  refine Ev.of pn_Mo rfl (leK rfl) ?_
  show Go E M_Mo_covers 0 0 0 [(0, .ref c0), (1, V a1), (2, V a2)] [] (WX X S) 0 0 (KB X q S)
  unfold fn_Mo_covers at h
  refine g_aloadn (pc := 0) (i0 := 0) (j := 0) (dK D_Mo_covers 0 rfl) rfl rfl ?_
  refine g_iloadn (pc := 1) (i0 := 1) (j := 1) (dK D_Mo_covers 1 rfl) rfl rfl ?_
  refine vg_iconst (pc := 2) (dK D_Mo_covers 2 rfl) ?_
  refine bnE h (fun p1 e_p1 h => ?_)
  refine vg_cV (pc := 3) (As := [V a1, V 4]) (rest := []) (mc' := 0) (ms' := 0) (dK D_Mo_covers 3 rfl) K_Mo_85 (fitK rfl) (ltK rfl) hc0 rfl (leK rfl) (leK rfl) (leK rfl) (tf_Mo_ofStory hc0 ha1 (inRk rfl) e_p1) (kcI (fun h_p1 => ?_))
  refine vg_if_le (pc := 6) (t := 44) (dK D_Mo_covers 4 rfl) rfl h_p1 (fun hc8 => ?_) (fun hc8 => ?_)
  · replace h := ifP h hc8
    refine vg_iconst (pc := 44) (dK D_Mo_covers 28 rfl) ?_
    exact vg_iretB (pc := 45) (b := false) (dK D_Mo_covers 29 rfl) rfl (leK rfl) (leK rfl) (fun _ => rfl) (by obtain rfl := Option.some.inj h; exact ⟨rfl, rfl⟩)
  · replace h := ifN h hc8
    refine g_iloadn (pc := 9) (i0 := 2) (j := 2) (dK D_Mo_covers 5 rfl) rfl rfl ?_
    refine vg_i2l (pc := 10) (dK D_Mo_covers 6 rfl) ha2 ?_
    refine g_aloadn (pc := 11) (i0 := 0) (j := 0) (dK D_Mo_covers 7 rfl) rfl rfl ?_
    refine g_iloadn (pc := 12) (i0 := 1) (j := 1) (dK D_Mo_covers 8 rfl) rfl rfl ?_
    refine vg_iconst (pc := 13) (dK D_Mo_covers 9 rfl) ?_
    refine bnE h (fun p2 e_p2 h => ?_)
    refine vg_cV (pc := 14) (As := [V a1, V 4]) (rest := [J a2]) (mc' := 0) (ms' := 0) (dK D_Mo_covers 10 rfl) K_Mo_85 (fitK rfl) (ltK rfl) hc0 rfl (leK rfl) (leK rfl) (leK rfl) (tf_Mo_ofStory hc0 ha1 (inRk rfl) e_p2) (kcI (fun h_p2 => ?_))
    refine vg_i2l (pc := 17) (dK D_Mo_covers 11 rfl) h_p2 ?_
    refine g_aloadn (pc := 18) (i0 := 0) (j := 0) (dK D_Mo_covers 12 rfl) rfl rfl ?_
    refine g_iloadn (pc := 19) (i0 := 1) (j := 1) (dK D_Mo_covers 13 rfl) rfl rfl ?_
    refine vg_iconst (pc := 20) (dK D_Mo_covers 14 rfl) ?_
    refine bnE h (fun p3 e_p3 h => ?_)
    refine vg_cV (pc := 21) (As := [V a1, V 4]) (rest := [J p2, J a2]) (mc' := 0) (ms' := 0) (dK D_Mo_covers 15 rfl) K_Mo_85 (fitK rfl) (ltK rfl) hc0 rfl (leK rfl) (leK rfl) (leK rfl) (tf_Mo_ofStory hc0 ha1 (inRk rfl) e_p3) (kcI (fun h_p3 => ?_))
    refine g_aloadn (pc := 24) (i0 := 0) (j := 0) (dK D_Mo_covers 16 rfl) rfl rfl ?_
    refine g_iloadn (pc := 25) (i0 := 1) (j := 1) (dK D_Mo_covers 17 rfl) rfl rfl ?_
    refine vg_iconst (pc := 26) (dK D_Mo_covers 18 rfl) ?_
    refine bnE h (fun p4 e_p4 h => ?_)
    refine vg_cV (pc := 27) (As := [V a1, V 0]) (rest := [V p3, J p2, J a2]) (mc' := 0) (ms' := 0) (dK D_Mo_covers 19 rfl) K_Mo_85 (fitK rfl) (ltK rfl) hc0 rfl (leK rfl) (leK rfl) (leK rfl) (tf_Mo_ofStory hc0 ha1 (inRk rfl) e_p4) (kcI (fun h_p4 => ?_))
    refine vg_iadd (pc := 30) (dK D_Mo_covers 20 rfl) ?_
    refine vg_iconst (pc := 31) (dK D_Mo_covers 21 rfl) ?_
    refine vg_isub (pc := 32) (dK D_Mo_covers 22 rfl) ?_
    refine nmE h (fun v5 e_v5 h => ?_)
    refine gtop e_v5 ?_
    refine vg_i2l (pc := 33) (dK D_Mo_covers 23 rfl) (Vn_in e_v5) ?_
    refine bnE h (fun p6 e_p6 h => ?_)
    refine vg_cS (pc := 34) (As := [J a2, J p2, J v5]) (rest := []) (mc' := 0) (ms' := 0) (dK D_Mo_covers 24 rfl) K_Mo_67 (fitK rfl) rfl (leK rfl) (leK rfl) (leK rfl) (tf_Mo_inRange (inR_L ha2) (inR_L h_p2) (inR_L (Vn_in e_v5)) e_p6) (kcB ?_)
    refine vg_ifB_eq (pc := 37) (b := p6) (t := 44) (dK D_Mo_covers 25 rfl) rfl (fun hc7 => ?_) (fun hc7 => ?_)
    · replace h := ifP h hc7
      refine vg_iconst (pc := 40) (dK D_Mo_covers 26 rfl) ?_
      refine g_goto (pc := 41) (tgt := 45) (dK D_Mo_covers 27 rfl) rfl ?_
      exact vg_iretB (pc := 45) (b := true) (dK D_Mo_covers 29 rfl) rfl (leK rfl) (leK rfl) (fun _ => rfl) (by obtain rfl := Option.some.inj h; exact ⟨rfl, rfl⟩)
    · replace h := ifN h hc7
      refine vg_iconst (pc := 44) (dK D_Mo_covers 28 rfl) ?_
      exact vg_iretB (pc := 45) (b := false) (dK D_Mo_covers 29 rfl) rfl (leK rfl) (leK rfl) (fun _ => rfl) (by obtain rfl := Option.some.inj h; exact ⟨rfl, rfl⟩)
def lb_Mo_storyOn_2 (c0 : Nat) (a1 : Int) (a2 : Int) (S : St) (go : Int → Option ((Int) ⊕ (Unit))) (a3 : Int) : Option ((Int) ⊕ (Unit)) := if (g S (tgt c0 0) 2) ≤ a3 then (some (.inr ())) else (if a3 = a2 then (nm (wr (a3 + 1)) fun v1 => go v1) else (bnO (fn_Mo_covers c0 a3 a1 S) fun p2 => if p2 = true then (some (.inl a3)) else (nm (wr (a3 + 1)) fun v4 => go v4)))
def lo_Mo_storyOn_2 (c0 : Nat) (a1 : Int) (a2 : Int) (S : St) : Nat → Int → Option ((Int) ⊕ (Unit)) := lp fun go p => lb_Mo_storyOn_2 c0 a1 a2 S go p
theorem tl_Mo_storyOn_2 {E : EV} {X : XT} {c0 : Nat} (hc0 : HC X 11 c0) {a1 : Int} (ha1 : inR a1) {a2 : Int} (ha2 : inR a2) {S : St} {K : RK → PS → Prop} {q : (Int) ⊕ (Unit)} (hx : ∀ p, q = .inr p → Go E M_Mo_storyOn 0 0 34 [] [] (WX X S) 0 0 K) (hr : ∀ p, q = .inl p → inR p → K (.inl (some (V p))) (WX X S)) : ∀ n a, lo_Mo_storyOn_2 c0 a1 a2 S n a = some q → inR a → Go E M_Mo_storyOn 0 0 2 [(0, .ref c0), (1, V a1), (2, V a2), (3, V a)] [] (WX X S) 0 0 K := by
  refine lp_ind (P := fun a : Int => inR a → Go E M_Mo_storyOn 0 0 2 [(0, .ref c0), (1, V a1), (2, V a2), (3, V a)] [] (WX X S) 0 0 K) (fun go ih a3 h => ?_)
  intro ha3
  show Go E M_Mo_storyOn 0 0 2 [(0, .ref c0), (1, V a1), (2, V a2), (3, V a3)] [] (WX X S) 0 0 K
  replace h : lb_Mo_storyOn_2 c0 a1 a2 S go a3 = some q := h
  unfold lb_Mo_storyOn_2 at h
  refine g_iloadn (pc := 2) (i0 := 3) (j := 3) (dK D_Mo_storyOn 2 rfl) rfl rfl ?_
  refine g_aloadn (pc := 3) (i0 := 0) (j := 0) (dK D_Mo_storyOn 3 rfl) rfl rfl ?_
  refine vg_getA (pc := 4) (ci := 11) (f := 0) (dK D_Mo_storyOn 4 rfl) q_1442 hc0 (ltK rfl) (ltK rfl) rfl ?_
  refine vg_iconst (pc := 7) (dK D_Mo_storyOn 5 rfl) ?_
  refine vg_iaload (pc := 8) (j := 2) (dK D_Mo_storyOn 6 rfl) (hw_11_0 hc0) rfl ⟨by decide, by decide⟩ rfl ?_
  refine vg_icmp_ge (pc := 9) (t := 34) (dK D_Mo_storyOn 7 rfl) rfl ha3 (g_in _ _ _) (fun hc6 => ?_) (fun hc6 => ?_)
  · replace h := ifP h hc6
    refine gL_weak (ls' := []) sbn ?_
    exact hx _ (Option.some.inj h).symm 
  · replace h := ifN h hc6
    refine g_iloadn (pc := 12) (i0 := 3) (j := 3) (dK D_Mo_storyOn 8 rfl) rfl rfl ?_
    refine g_iloadn (pc := 13) (i0 := 2) (j := 2) (dK D_Mo_storyOn 9 rfl) rfl rfl ?_
    refine vg_icmp_eq (pc := 14) (t := 28) (dK D_Mo_storyOn 10 rfl) rfl ha3 ha2 (fun hc5 => ?_) (fun hc5 => ?_)
    · replace h := ifP h hc5
      refine nmE h (fun v1 e_v1 h => ?_)
      refine vg_iinc (pc := 28) (j := 3) (a := a3) (z := 1) (ls2 := [(3, V v1), (0, .ref c0), (1, V a1), (2, V a2)]) (dK D_Mo_storyOn 18 rfl) rfl e_v1 (ltK rfl) rfl ?_
      refine g_goto (pc := 31) (tgt := 2) (dK D_Mo_storyOn 19 rfl) rfl ?_
      refine gL_weak (ls' := [(0, .ref c0), (1, V a1), (2, V a2), (3, V v1)]) (sbc 1 rfl (sbc 2 rfl (sbc 3 rfl (sbc 0 rfl sbn)))) ?_
      replace h := ih _ h
      exact h (Vn_in e_v1)
    · replace h := ifN h hc5
      refine g_aloadn (pc := 17) (i0 := 0) (j := 0) (dK D_Mo_storyOn 11 rfl) rfl rfl ?_
      refine g_iloadn (pc := 18) (i0 := 3) (j := 3) (dK D_Mo_storyOn 12 rfl) rfl rfl ?_
      refine g_iloadn (pc := 19) (i0 := 1) (j := 1) (dK D_Mo_storyOn 13 rfl) rfl rfl ?_
      refine bnE h (fun p2 e_p2 h => ?_)
      refine vg_cV (pc := 20) (As := [V a3, V a1]) (rest := []) (mc' := 0) (ms' := 0) (dK D_Mo_storyOn 14 rfl) K_Mo_88 (fitK rfl) (ltK rfl) hc0 rfl (leK rfl) (leK rfl) (leK rfl) (tf_Mo_covers hc0 ha3 ha1 e_p2) (kcB ?_)
      refine vg_ifB_eq (pc := 23) (b := p2) (t := 28) (dK D_Mo_storyOn 15 rfl) rfl (fun hc3 => ?_) (fun hc3 => ?_)
      · replace h := ifP h hc3
        refine g_iloadn (pc := 26) (i0 := 3) (j := 3) (dK D_Mo_storyOn 16 rfl) rfl rfl ?_
        exact vg_iretI (pc := 27) (r := a3) (dK D_Mo_storyOn 17 rfl) rfl (leK rfl) (leK rfl) (fun _ => rfl) (hr _ (Option.some.inj h).symm ha3)
      · replace h := ifN h hc3
        refine nmE h (fun v4 e_v4 h => ?_)
        refine vg_iinc (pc := 28) (j := 3) (a := a3) (z := 1) (ls2 := [(3, V v4), (0, .ref c0), (1, V a1), (2, V a2)]) (dK D_Mo_storyOn 18 rfl) rfl e_v4 (ltK rfl) rfl ?_
        refine g_goto (pc := 31) (tgt := 2) (dK D_Mo_storyOn 19 rfl) rfl ?_
        refine gL_weak (ls' := [(0, .ref c0), (1, V a1), (2, V a2), (3, V v4)]) (sbc 1 rfl (sbc 2 rfl (sbc 3 rfl (sbc 0 rfl sbn)))) ?_
        replace h := ih _ h
        exact h (Vn_in e_v4)
def fn_Mo_storyOn (c0 : Nat) (a1 : Int) (a2 : Int) (S : St) : Option (Int) := bnS (lo_Mo_storyOn_2 c0 a1 a2 S FU 0) (fun p8 => some p8) fun p7 => some (-1)
theorem tf_Mo_storyOn {E : EV} {X : XT} {c0 : Nat} (hc0 : HC X 11 c0) {a1 : Int} (ha1 : inR a1) {a2 : Int} (ha2 : inR a2) {S : St} {q : Int} (h : fn_Mo_storyOn c0 a1 a2 S = some q) : Ev E M_Mo_storyOn [.ref c0, V a1, V a2] (WX X S) 0 0 (KI X q S) := by
  refine Ev.of pn_Mo rfl (leK rfl) ?_
  show Go E M_Mo_storyOn 0 0 0 [(0, .ref c0), (1, V a1), (2, V a2)] [] (WX X S) 0 0 (KI X q S)
  unfold fn_Mo_storyOn at h
  refine vg_iconst (pc := 0) (dK D_Mo_storyOn 0 rfl) ?_
  refine g_istoren (pc := 1) (i0 := 3) (ls2 := [(3, V 0), (0, .ref c0), (1, V a1), (2, V a2)]) (dK D_Mo_storyOn 1 rfl) rfl (ltK rfl) rfl ?_
  refine bnSE h (fun p8 e_p8 h => ?_) (fun p7 e_p7 h => ?_)
  · refine gL_weak (ls' := [(0, .ref c0), (1, V a1), (2, V a2), (3, V 0)]) (sbc 1 rfl (sbc 2 rfl (sbc 3 rfl (sbc 0 rfl sbn)))) ?_
    refine tl_Mo_storyOn_2 hc0 ha1 ha2 (fun _ e => slr e) (fun p e hr_p8 => ?_) FU 0 e_p8 (inRk rfl)
    have e := Sum.inl.inj e
    subst e
    exact (by obtain rfl := Option.some.inj h; exact ⟨rfl, hr_p8, rfl⟩)
  · refine gL_weak (ls' := [(0, .ref c0), (1, V a1), (2, V a2), (3, V 0)]) (sbc 1 rfl (sbc 2 rfl (sbc 3 rfl (sbc 0 rfl sbn)))) ?_
    refine tl_Mo_storyOn_2 hc0 ha1 ha2 (fun p e => ?_) (fun _ e => srl e) FU 0 e_p7 (inRk rfl)
    have e := Sum.inr.inj e
    subst e
    refine vg_iconst (pc := 34) (dK D_Mo_storyOn 20 rfl) ?_
    exact vg_iretI (pc := 35) (r := (-1)) (dK D_Mo_storyOn 21 rfl) rfl (leK rfl) (leK rfl) (fun _ => rfl) (by obtain rfl := Option.some.inj h; exact ⟨rfl, (inRk rfl), rfl⟩)
def fn_Mo_ofAd (c0 : Nat) (a1 : Int) (a2 : Int) (S : St) : Option (Int) := if 0 ≤ ((29 + (7 * a1)) + a2) ∧ ((29 + (7 * a1)) + a2) < 8740 then (some (g S (tgt c0 0) ((((29 + (7 * a1)) + a2)).toNat))) else none
theorem tf_Mo_ofAd {E : EV} {X : XT} {c0 : Nat} (hc0 : HC X 11 c0) {a1 : Int} (ha1 : inR a1) {a2 : Int} (ha2 : inR a2) {S : St} {q : Int} (h : fn_Mo_ofAd c0 a1 a2 S = some q) : Ev E M_Mo_ofAd [.ref c0, V a1, V a2] (WX X S) 0 0 (KI X q S) := by
  refine Ev.of pn_Mo rfl (leK rfl) ?_
  show Go E M_Mo_ofAd 0 0 0 [(0, .ref c0), (1, V a1), (2, V a2)] [] (WX X S) 0 0 (KI X q S)
  unfold fn_Mo_ofAd at h
  refine g_aloadn (pc := 0) (i0 := 0) (j := 0) (dK D_Mo_ofAd 0 rfl) rfl rfl ?_
  refine vg_getA (pc := 1) (ci := 11) (f := 0) (dK D_Mo_ofAd 1 rfl) q_1442 hc0 (ltK rfl) (ltK rfl) rfl ?_
  refine vg_bipush (pc := 4) (dK D_Mo_ofAd 2 rfl) rfl ?_
  refine vg_bipush (pc := 6) (dK D_Mo_ofAd 3 rfl) rfl ?_
  refine g_iloadn (pc := 8) (i0 := 1) (j := 1) (dK D_Mo_ofAd 4 rfl) rfl rfl ?_
  refine vg_imul (pc := 9) (dK D_Mo_ofAd 5 rfl) ?_
  refine vg_iadd (pc := 10) (dK D_Mo_ofAd 6 rfl) ?_
  refine g_iloadn (pc := 11) (i0 := 2) (j := 2) (dK D_Mo_ofAd 7 rfl) rfl rfl ?_
  refine vg_iadd (pc := 12) (dK D_Mo_ofAd 8 rfl) ?_
  refine gdE h (fun hi1 h => ?_)
  refine vg_iaload (pc := 13) (j := (((29 + (7 * a1)) + a2)).toNat) (dK D_Mo_ofAd 9 rfl) (hw_11_0 hc0) rfl hi1 rfl ?_
  exact vg_iretI (pc := 14) (r := (g S (tgt c0 0) ((((29 + (7 * a1)) + a2)).toNat))) (dK D_Mo_ofAd 10 rfl) rfl (leK rfl) (leK rfl) (fun _ => rfl) (by obtain rfl := Option.some.inj h; exact ⟨rfl, (g_in _ _ _), rfl⟩)
def fn_Mo_ofStandby (c0 : Nat) (a1 : Int) (a2 : Int) (S : St) : Option (Int) := if 0 ≤ ((359 + (2 * a1)) + a2) ∧ ((359 + (2 * a1)) + a2) < 8740 then (some (g S (tgt c0 0) ((((359 + (2 * a1)) + a2)).toNat))) else none
theorem tf_Mo_ofStandby {E : EV} {X : XT} {c0 : Nat} (hc0 : HC X 11 c0) {a1 : Int} (ha1 : inR a1) {a2 : Int} (ha2 : inR a2) {S : St} {q : Int} (h : fn_Mo_ofStandby c0 a1 a2 S = some q) : Ev E M_Mo_ofStandby [.ref c0, V a1, V a2] (WX X S) 0 0 (KI X q S) := by
  refine Ev.of pn_Mo rfl (leK rfl) ?_
  show Go E M_Mo_ofStandby 0 0 0 [(0, .ref c0), (1, V a1), (2, V a2)] [] (WX X S) 0 0 (KI X q S)
  unfold fn_Mo_ofStandby at h
  refine g_aloadn (pc := 0) (i0 := 0) (j := 0) (dK D_Mo_ofStandby 0 rfl) rfl rfl ?_
  refine vg_getA (pc := 1) (ci := 11) (f := 0) (dK D_Mo_ofStandby 1 rfl) q_1442 hc0 (ltK rfl) (ltK rfl) rfl ?_
  refine vg_sipush (pc := 4) (dK D_Mo_ofStandby 2 rfl) rfl ?_
  refine vg_iconst (pc := 7) (dK D_Mo_ofStandby 3 rfl) ?_
  refine g_iloadn (pc := 8) (i0 := 1) (j := 1) (dK D_Mo_ofStandby 4 rfl) rfl rfl ?_
  refine vg_imul (pc := 9) (dK D_Mo_ofStandby 5 rfl) ?_
  refine vg_iadd (pc := 10) (dK D_Mo_ofStandby 6 rfl) ?_
  refine g_iloadn (pc := 11) (i0 := 2) (j := 2) (dK D_Mo_ofStandby 7 rfl) rfl rfl ?_
  refine vg_iadd (pc := 12) (dK D_Mo_ofStandby 8 rfl) ?_
  refine gdE h (fun hi1 h => ?_)
  refine vg_iaload (pc := 13) (j := (((359 + (2 * a1)) + a2)).toNat) (dK D_Mo_ofStandby 9 rfl) (hw_11_0 hc0) rfl hi1 rfl ?_
  exact vg_iretI (pc := 14) (r := (g S (tgt c0 0) ((((359 + (2 * a1)) + a2)).toNat))) (dK D_Mo_ofStandby 10 rfl) rfl (leK rfl) (leK rfl) (fun _ => rfl) (by obtain rfl := Option.some.inj h; exact ⟨rfl, (g_in _ _ _), rfl⟩)
def lb_Mo_roomOn_6 (c0 : Nat) (a1 : Int) (a2 : Int) (a3 : Int) (S : St) (go : Int × Int → Option (Int)) (a4 : Int) (a5 : Int) : Option (Int) := if (g S (tgt c0 0) 1) ≤ a5 then (some a4) else (if a5 = a2 then (nm (wr (a4 - 0)) fun v1 => nm (wr (a5 + 1)) fun v2 => go (v1, v2)) else (bnO (fn_Mo_ofAd c0 a5 6 S) fun p3 => if p3 = a1 then (bnO (fn_Mo_ofAd c0 a5 0 S) fun p6 => nm (wr (a4 - p6)) fun v7 => nm (wr (a5 + 1)) fun v8 => go (v7, v8)) else (nm (wr (a4 - 0)) fun v4 => nm (wr (a5 + 1)) fun v5 => go (v4, v5))))
def lo_Mo_roomOn_6 (c0 : Nat) (a1 : Int) (a2 : Int) (a3 : Int) (S : St) : Nat → Int × Int → Option (Int) := lp fun go p => lb_Mo_roomOn_6 c0 a1 a2 a3 S go p.1 p.2
theorem tl_Mo_roomOn_6 {E : EV} {X : XT} {c0 : Nat} (hc0 : HC X 11 c0) {a1 : Int} (ha1 : inR a1) {a2 : Int} (ha2 : inR a2) {a3 : Int} (ha3 : inR a3) {S : St} {K : RK → PS → Prop} {q : Int} (hx : inR q → Go E M_Mo_roomOn 0 0 57 [(0, .ref c0), (1, V a1), (3, V a3), (4, V q)] [] (WX X S) 0 0 K) : ∀ n a, lo_Mo_roomOn_6 c0 a1 a2 a3 S n a = some q → inR a.1 → inR a.2 → Go E M_Mo_roomOn 0 0 6 [(0, .ref c0), (1, V a1), (2, V a2), (3, V a3), (4, V a.1), (5, V a.2)] [] (WX X S) 0 0 K := by
  refine lp_ind (P := fun a : Int × Int => inR a.1 → inR a.2 → Go E M_Mo_roomOn 0 0 6 [(0, .ref c0), (1, V a1), (2, V a2), (3, V a3), (4, V a.1), (5, V a.2)] [] (WX X S) 0 0 K) (fun go ih a h => ?_)
  obtain ⟨a4, a5⟩ := a
  intro ha4 ha5
  show Go E M_Mo_roomOn 0 0 6 [(0, .ref c0), (1, V a1), (2, V a2), (3, V a3), (4, V a4), (5, V a5)] [] (WX X S) 0 0 K
  replace h : lb_Mo_roomOn_6 c0 a1 a2 a3 S go a4 a5 = some q := h
  unfold lb_Mo_roomOn_6 at h
  refine g_iload (pc := 6) (j := 5) (dK D_Mo_roomOn_0 4 rfl) rfl ?_
  refine g_aloadn (pc := 8) (i0 := 0) (j := 0) (dK D_Mo_roomOn_0 5 rfl) rfl rfl ?_
  refine vg_getA (pc := 9) (ci := 11) (f := 0) (dK D_Mo_roomOn_0 6 rfl) q_1442 hc0 (ltK rfl) (ltK rfl) rfl ?_
  refine vg_iconst (pc := 12) (dK D_Mo_roomOn_0 7 rfl) ?_
  refine vg_iaload (pc := 13) (j := 1) (dK D_Mo_roomOn_0 8 rfl) (hw_11_0 hc0) rfl ⟨by decide, by decide⟩ rfl ?_
  refine vg_icmp_ge (pc := 14) (t := 57) (dK D_Mo_roomOn_0 9 rfl) rfl ha5 (g_in _ _ _) (fun hc11 => ?_) (fun hc11 => ?_)
  · replace h := ifP h hc11
    obtain rfl := Option.some.inj h
    refine gL_weak (ls' := [(0, .ref c0), (1, V a1), (3, V a3), (4, V a4)]) (sbc 0 rfl (sbc 1 rfl (sbc 3 rfl (sbc 4 rfl sbn)))) ?_
    exact hx ha4
  · replace h := ifN h hc11
    refine g_iload (pc := 17) (j := 4) (dK D_Mo_roomOn_0 10 rfl) rfl ?_
    refine g_iload (pc := 19) (j := 5) (dK D_Mo_roomOn_0 11 rfl) rfl ?_
    refine g_iloadn (pc := 21) (i0 := 2) (j := 2) (dK D_Mo_roomOn_0 12 rfl) rfl rfl ?_
    refine vg_icmp_eq (pc := 22) (t := 47) (dK D_Mo_roomOn_0 13 rfl) rfl ha5 ha2 (fun hc10 => ?_) (fun hc10 => ?_)
    · replace h := ifP h hc10
      refine vg_iconst (pc := 47) (dK D_Mo_roomOn_0 25 rfl) ?_
      refine vg_isub (pc := 48) (dK D_Mo_roomOn_0 26 rfl) ?_
      refine nmE h (fun v1 e_v1 h => ?_)
      refine gtop e_v1 ?_
      refine g_istore (pc := 49) (ls2 := [(4, V v1), (0, .ref c0), (1, V a1), (2, V a2), (3, V a3), (5, V a5)]) (dK D_Mo_roomOn_0 27 rfl) (ltK rfl) rfl ?_
      refine nmE h (fun v2 e_v2 h => ?_)
      refine vg_iinc (pc := 51) (j := 5) (a := a5) (z := 1) (ls2 := [(5, V v2), (4, V v1), (0, .ref c0), (1, V a1), (2, V a2), (3, V a3)]) (dK D_Mo_roomOn_0 28 rfl) rfl e_v2 (ltK rfl) rfl ?_
      refine g_goto (pc := 54) (tgt := 6) (dK D_Mo_roomOn_0 29 rfl) rfl ?_
      refine gL_weak (ls' := [(0, .ref c0), (1, V a1), (2, V a2), (3, V a3), (4, V v1), (5, V v2)]) (sbc 2 rfl (sbc 3 rfl (sbc 4 rfl (sbc 5 rfl (sbc 1 rfl (sbc 0 rfl sbn)))))) ?_
      replace h := ih _ h
      exact h (Vn_in e_v1) (Vn_in e_v2)
    · replace h := ifN h hc10
      refine g_aloadn (pc := 25) (i0 := 0) (j := 0) (dK D_Mo_roomOn_0 14 rfl) rfl rfl ?_
      refine g_iload (pc := 26) (j := 5) (dK D_Mo_roomOn_0 15 rfl) rfl ?_
      refine vg_bipush (pc := 28) (dK D_Mo_roomOn_0 16 rfl) rfl ?_
      refine bnE h (fun p3 e_p3 h => ?_)
      refine vg_cV (pc := 30) (As := [V a5, V 6]) (rest := [V a4]) (mc' := 0) (ms' := 0) (dK D_Mo_roomOn_0 17 rfl) K_Mo_82 (fitK rfl) (ltK rfl) hc0 rfl (leK rfl) (leK rfl) (leK rfl) (tf_Mo_ofAd hc0 ha5 (inRk rfl) e_p3) (kcI (fun h_p3 => ?_))
      refine g_iloadn (pc := 33) (i0 := 1) (j := 1) (dK D_Mo_roomOn_0 18 rfl) rfl rfl ?_
      refine vg_icmp_ne (pc := 34) (t := 47) (dK D_Mo_roomOn_0 19 rfl) rfl h_p3 ha1 (fun hc9 => ?_) (fun hc9 => ?_)
      · replace h := ifN h hc9
        refine vg_iconst (pc := 47) (dK D_Mo_roomOn_0 25 rfl) ?_
        refine vg_isub (pc := 48) (dK D_Mo_roomOn_0 26 rfl) ?_
        refine nmE h (fun v4 e_v4 h => ?_)
        refine gtop e_v4 ?_
        refine g_istore (pc := 49) (ls2 := [(4, V v4), (0, .ref c0), (1, V a1), (2, V a2), (3, V a3), (5, V a5)]) (dK D_Mo_roomOn_0 27 rfl) (ltK rfl) rfl ?_
        refine nmE h (fun v5 e_v5 h => ?_)
        refine vg_iinc (pc := 51) (j := 5) (a := a5) (z := 1) (ls2 := [(5, V v5), (4, V v4), (0, .ref c0), (1, V a1), (2, V a2), (3, V a3)]) (dK D_Mo_roomOn_0 28 rfl) rfl e_v5 (ltK rfl) rfl ?_
        refine g_goto (pc := 54) (tgt := 6) (dK D_Mo_roomOn_0 29 rfl) rfl ?_
        refine gL_weak (ls' := [(0, .ref c0), (1, V a1), (2, V a2), (3, V a3), (4, V v4), (5, V v5)]) (sbc 2 rfl (sbc 3 rfl (sbc 4 rfl (sbc 5 rfl (sbc 1 rfl (sbc 0 rfl sbn)))))) ?_
        replace h := ih _ h
        exact h (Vn_in e_v4) (Vn_in e_v5)
      · replace h := ifP h hc9
        refine g_aloadn (pc := 37) (i0 := 0) (j := 0) (dK D_Mo_roomOn_0 20 rfl) rfl rfl ?_
        refine g_iload (pc := 38) (j := 5) (dK D_Mo_roomOn_0 21 rfl) rfl ?_
        refine vg_iconst (pc := 40) (dK D_Mo_roomOn_0 22 rfl) ?_
        refine bnE h (fun p6 e_p6 h => ?_)
        refine vg_cV (pc := 41) (As := [V a5, V 0]) (rest := [V a4]) (mc' := 0) (ms' := 0) (dK D_Mo_roomOn_0 23 rfl) K_Mo_82 (fitK rfl) (ltK rfl) hc0 rfl (leK rfl) (leK rfl) (leK rfl) (tf_Mo_ofAd hc0 ha5 (inRk rfl) e_p6) (kcI (fun h_p6 => ?_))
        refine g_goto (pc := 44) (tgt := 48) (dK D_Mo_roomOn_0 24 rfl) rfl ?_
        refine vg_isub (pc := 48) (dK D_Mo_roomOn_0 26 rfl) ?_
        refine nmE h (fun v7 e_v7 h => ?_)
        refine gtop e_v7 ?_
        refine g_istore (pc := 49) (ls2 := [(4, V v7), (0, .ref c0), (1, V a1), (2, V a2), (3, V a3), (5, V a5)]) (dK D_Mo_roomOn_0 27 rfl) (ltK rfl) rfl ?_
        refine nmE h (fun v8 e_v8 h => ?_)
        refine vg_iinc (pc := 51) (j := 5) (a := a5) (z := 1) (ls2 := [(5, V v8), (4, V v7), (0, .ref c0), (1, V a1), (2, V a2), (3, V a3)]) (dK D_Mo_roomOn_0 28 rfl) rfl e_v8 (ltK rfl) rfl ?_
        refine g_goto (pc := 54) (tgt := 6) (dK D_Mo_roomOn_0 29 rfl) rfl ?_
        refine gL_weak (ls' := [(0, .ref c0), (1, V a1), (2, V a2), (3, V a3), (4, V v7), (5, V v8)]) (sbc 2 rfl (sbc 3 rfl (sbc 4 rfl (sbc 5 rfl (sbc 1 rfl (sbc 0 rfl sbn)))))) ?_
        replace h := ih _ h
        exact h (Vn_in e_v7) (Vn_in e_v8)
def lb_Mo_roomOn_60 (c0 : Nat) (a1 : Int) (a3 : Int) (S : St) (go : Int × Int → Option (Int)) (a4 : Int) (a5 : Int) : Option (Int) := if (g S (tgt c0 0) 3) ≤ a5 then (some a4) else (if a5 = a3 then (nm (wr (a4 - 0)) fun v13 => nm (wr (a5 + 1)) fun v14 => go (v13, v14)) else (bnO (fn_Mo_ofStandby c0 a5 1 S) fun p15 => if p15 = a1 then (bnO (fn_Mo_ofStandby c0 a5 0 S) fun p18 => nm (wr (a4 - p18)) fun v19 => nm (wr (a5 + 1)) fun v20 => go (v19, v20)) else (nm (wr (a4 - 0)) fun v16 => nm (wr (a5 + 1)) fun v17 => go (v16, v17))))
def lo_Mo_roomOn_60 (c0 : Nat) (a1 : Int) (a3 : Int) (S : St) : Nat → Int × Int → Option (Int) := lp fun go p => lb_Mo_roomOn_60 c0 a1 a3 S go p.1 p.2
theorem tl_Mo_roomOn_60 {E : EV} {X : XT} {c0 : Nat} (hc0 : HC X 11 c0) {a1 : Int} (ha1 : inR a1) {a3 : Int} (ha3 : inR a3) {S : St} {K : RK → PS → Prop} {q : Int} (hx : inR q → Go E M_Mo_roomOn 0 0 110 [(4, V q)] [] (WX X S) 0 0 K) : ∀ n a, lo_Mo_roomOn_60 c0 a1 a3 S n a = some q → inR a.1 → inR a.2 → Go E M_Mo_roomOn 0 0 60 [(0, .ref c0), (1, V a1), (3, V a3), (4, V a.1), (5, V a.2)] [] (WX X S) 0 0 K := by
  refine lp_ind (P := fun a : Int × Int => inR a.1 → inR a.2 → Go E M_Mo_roomOn 0 0 60 [(0, .ref c0), (1, V a1), (3, V a3), (4, V a.1), (5, V a.2)] [] (WX X S) 0 0 K) (fun go ih a h => ?_)
  obtain ⟨a4, a5⟩ := a
  intro ha4 ha5
  show Go E M_Mo_roomOn 0 0 60 [(0, .ref c0), (1, V a1), (3, V a3), (4, V a4), (5, V a5)] [] (WX X S) 0 0 K
  replace h : lb_Mo_roomOn_60 c0 a1 a3 S go a4 a5 = some q := h
  unfold lb_Mo_roomOn_60 at h
  refine g_iload (pc := 60) (j := 4) (dK D_Mo_roomOn_0 32 rfl) rfl ?_
  refine g_aloadn (pc := 62) (i0 := 0) (j := 0) (dK D_Mo_roomOn_0 33 rfl) rfl rfl ?_
  refine vg_getA (pc := 63) (ci := 11) (f := 0) (dK D_Mo_roomOn_0 34 rfl) q_1442 hc0 (ltK rfl) (ltK rfl) rfl ?_
  refine vg_iconst (pc := 66) (dK D_Mo_roomOn_0 35 rfl) ?_
  refine vg_iaload (pc := 67) (j := 3) (dK D_Mo_roomOn_0 36 rfl) (hw_11_0 hc0) rfl ⟨by decide, by decide⟩ rfl ?_
  refine vg_icmp_ge (pc := 68) (t := 110) (dK D_Mo_roomOn_0 37 rfl) rfl ha5 (g_in _ _ _) (fun hc23 => ?_) (fun hc23 => ?_)
  · replace h := ifP h hc23
    obtain rfl := Option.some.inj h
    refine gL_weak (ls' := [(4, V a4)]) (sbc 3 rfl sbn) ?_
    exact hx ha4
  · replace h := ifN h hc23
    refine g_iload (pc := 71) (j := 3) (dK D_Mo_roomOn_0 38 rfl) rfl ?_
    refine g_iload (pc := 73) (j := 4) (dK D_Mo_roomOn_0 39 rfl) rfl ?_
    refine g_iloadn (pc := 75) (i0 := 3) (j := 2) (dK D_Mo_roomOn_0 40 rfl) rfl rfl ?_
    refine vg_icmp_eq (pc := 76) (t := 100) (dK D_Mo_roomOn_0 41 rfl) rfl ha5 ha3 (fun hc22 => ?_) (fun hc22 => ?_)
    · replace h := ifP h hc22
      refine vg_iconst (pc := 100) (dK D_Mo_roomOn_1 3 rfl) ?_
      refine vg_isub (pc := 101) (dK D_Mo_roomOn_1 4 rfl) ?_
      refine nmE h (fun v13 e_v13 h => ?_)
      refine gtop e_v13 ?_
      refine g_istore (pc := 102) (ls2 := [(4, V v13), (0, .ref c0), (1, V a1), (3, V a3), (5, V a5)]) (dK D_Mo_roomOn_1 5 rfl) (ltK rfl) rfl ?_
      refine nmE h (fun v14 e_v14 h => ?_)
      refine vg_iinc (pc := 104) (j := 4) (a := a5) (z := 1) (ls2 := [(5, V v14), (4, V v13), (0, .ref c0), (1, V a1), (3, V a3)]) (dK D_Mo_roomOn_1 6 rfl) rfl e_v14 (ltK rfl) rfl ?_
      refine g_goto (pc := 107) (tgt := 60) (dK D_Mo_roomOn_1 7 rfl) rfl ?_
      refine gL_weak (ls' := [(0, .ref c0), (1, V a1), (3, V a3), (4, V v13), (5, V v14)]) (sbc 2 rfl (sbc 3 rfl (sbc 4 rfl (sbc 1 rfl (sbc 0 rfl sbn))))) ?_
      replace h := ih _ h
      exact h (Vn_in e_v13) (Vn_in e_v14)
    · replace h := ifN h hc22
      refine g_aloadn (pc := 79) (i0 := 0) (j := 0) (dK D_Mo_roomOn_0 42 rfl) rfl rfl ?_
      refine g_iload (pc := 80) (j := 4) (dK D_Mo_roomOn_0 43 rfl) rfl ?_
      refine vg_iconst (pc := 82) (dK D_Mo_roomOn_0 44 rfl) ?_
      refine bnE h (fun p15 e_p15 h => ?_)
      refine vg_cV (pc := 83) (As := [V a5, V 1]) (rest := [V a4]) (mc' := 0) (ms' := 0) (dK D_Mo_roomOn_0 45 rfl) K_Mo_92 (fitK rfl) (ltK rfl) hc0 rfl (leK rfl) (leK rfl) (leK rfl) (tf_Mo_ofStandby hc0 ha5 (inRk rfl) e_p15) (kcI (fun h_p15 => ?_))
      refine g_iloadn (pc := 86) (i0 := 1) (j := 1) (dK D_Mo_roomOn_0 46 rfl) rfl rfl ?_
      refine vg_icmp_ne (pc := 87) (t := 100) (dK D_Mo_roomOn_0 47 rfl) rfl h_p15 ha1 (fun hc21 => ?_) (fun hc21 => ?_)
      · replace h := ifN h hc21
        refine vg_iconst (pc := 100) (dK D_Mo_roomOn_1 3 rfl) ?_
        refine vg_isub (pc := 101) (dK D_Mo_roomOn_1 4 rfl) ?_
        refine nmE h (fun v16 e_v16 h => ?_)
        refine gtop e_v16 ?_
        refine g_istore (pc := 102) (ls2 := [(4, V v16), (0, .ref c0), (1, V a1), (3, V a3), (5, V a5)]) (dK D_Mo_roomOn_1 5 rfl) (ltK rfl) rfl ?_
        refine nmE h (fun v17 e_v17 h => ?_)
        refine vg_iinc (pc := 104) (j := 4) (a := a5) (z := 1) (ls2 := [(5, V v17), (4, V v16), (0, .ref c0), (1, V a1), (3, V a3)]) (dK D_Mo_roomOn_1 6 rfl) rfl e_v17 (ltK rfl) rfl ?_
        refine g_goto (pc := 107) (tgt := 60) (dK D_Mo_roomOn_1 7 rfl) rfl ?_
        refine gL_weak (ls' := [(0, .ref c0), (1, V a1), (3, V a3), (4, V v16), (5, V v17)]) (sbc 2 rfl (sbc 3 rfl (sbc 4 rfl (sbc 1 rfl (sbc 0 rfl sbn))))) ?_
        replace h := ih _ h
        exact h (Vn_in e_v16) (Vn_in e_v17)
      · replace h := ifP h hc21
        refine g_aloadn (pc := 90) (i0 := 0) (j := 0) (dK D_Mo_roomOn_0 48 rfl) rfl rfl ?_
        refine g_iload (pc := 91) (j := 4) (dK D_Mo_roomOn_0 49 rfl) rfl ?_
        refine vg_iconst (pc := 93) (dK D_Mo_roomOn_1 0 rfl) ?_
        refine bnE h (fun p18 e_p18 h => ?_)
        refine vg_cV (pc := 94) (As := [V a5, V 0]) (rest := [V a4]) (mc' := 0) (ms' := 0) (dK D_Mo_roomOn_1 1 rfl) K_Mo_92 (fitK rfl) (ltK rfl) hc0 rfl (leK rfl) (leK rfl) (leK rfl) (tf_Mo_ofStandby hc0 ha5 (inRk rfl) e_p18) (kcI (fun h_p18 => ?_))
        refine g_goto (pc := 97) (tgt := 101) (dK D_Mo_roomOn_1 2 rfl) rfl ?_
        refine vg_isub (pc := 101) (dK D_Mo_roomOn_1 4 rfl) ?_
        refine nmE h (fun v19 e_v19 h => ?_)
        refine gtop e_v19 ?_
        refine g_istore (pc := 102) (ls2 := [(4, V v19), (0, .ref c0), (1, V a1), (3, V a3), (5, V a5)]) (dK D_Mo_roomOn_1 5 rfl) (ltK rfl) rfl ?_
        refine nmE h (fun v20 e_v20 h => ?_)
        refine vg_iinc (pc := 104) (j := 4) (a := a5) (z := 1) (ls2 := [(5, V v20), (4, V v19), (0, .ref c0), (1, V a1), (3, V a3)]) (dK D_Mo_roomOn_1 6 rfl) rfl e_v20 (ltK rfl) rfl ?_
        refine g_goto (pc := 107) (tgt := 60) (dK D_Mo_roomOn_1 7 rfl) rfl ?_
        refine gL_weak (ls' := [(0, .ref c0), (1, V a1), (3, V a3), (4, V v19), (5, V v20)]) (sbc 2 rfl (sbc 3 rfl (sbc 4 rfl (sbc 1 rfl (sbc 0 rfl sbn))))) ?_
        replace h := ih _ h
        exact h (Vn_in e_v19) (Vn_in e_v20)
def fn_Mo_roomOn (c0 : Nat) (a1 : Int) (a2 : Int) (a3 : Int) (S : St) : Option (Int) := bnO (lo_Mo_roomOn_6 c0 a1 a2 a3 S FU (4, 0)) fun p12 => bnO (lo_Mo_roomOn_60 c0 a1 a3 S FU (p12, 0)) fun p24 => some p24
theorem tf_Mo_roomOn {E : EV} {X : XT} {c0 : Nat} (hc0 : HC X 11 c0) {a1 : Int} (ha1 : inR a1) {a2 : Int} (ha2 : inR a2) {a3 : Int} (ha3 : inR a3) {S : St} {q : Int} (h : fn_Mo_roomOn c0 a1 a2 a3 S = some q) : Ev E M_Mo_roomOn [.ref c0, V a1, V a2, V a3] (WX X S) 0 0 (KI X q S) := by
  refine Ev.of pn_Mo rfl (leK rfl) ?_
  show Go E M_Mo_roomOn 0 0 0 [(0, .ref c0), (1, V a1), (2, V a2), (3, V a3)] [] (WX X S) 0 0 (KI X q S)
  unfold fn_Mo_roomOn at h
  refine vg_iconst (pc := 0) (dK D_Mo_roomOn_0 0 rfl) ?_
  refine g_istore (pc := 1) (ls2 := [(4, V 4), (0, .ref c0), (1, V a1), (2, V a2), (3, V a3)]) (dK D_Mo_roomOn_0 1 rfl) (ltK rfl) rfl ?_
  refine vg_iconst (pc := 3) (dK D_Mo_roomOn_0 2 rfl) ?_
  refine g_istore (pc := 4) (ls2 := [(5, V 0), (4, V 4), (0, .ref c0), (1, V a1), (2, V a2), (3, V a3)]) (dK D_Mo_roomOn_0 3 rfl) (ltK rfl) rfl ?_
  refine bnE h (fun p12 e_p12 h => ?_)
  refine gL_weak (ls' := [(0, .ref c0), (1, V a1), (2, V a2), (3, V a3), (4, V 4), (5, V 0)]) (sbc 2 rfl (sbc 3 rfl (sbc 4 rfl (sbc 5 rfl (sbc 1 rfl (sbc 0 rfl sbn)))))) ?_
  refine tl_Mo_roomOn_6 hc0 ha1 ha2 ha3 (fun hx4_p12 => ?_) FU (4, 0) e_p12 (inRk rfl) (inRk rfl)
  refine vg_iconst (pc := 57) (dK D_Mo_roomOn_0 30 rfl) ?_
  refine g_istore (pc := 58) (ls2 := [(5, V 0), (0, .ref c0), (1, V a1), (3, V a3), (4, V p12)]) (dK D_Mo_roomOn_0 31 rfl) (ltK rfl) rfl ?_
  refine bnE h (fun p24 e_p24 h => ?_)
  refine gL_weak (ls' := [(0, .ref c0), (1, V a1), (3, V a3), (4, V p12), (5, V 0)]) (sbc 1 rfl (sbc 2 rfl (sbc 3 rfl (sbc 4 rfl (sbc 0 rfl sbn))))) ?_
  refine tl_Mo_roomOn_60 hc0 ha1 ha3 (fun hx4_p24 => ?_) FU (p12, 0) e_p24 hx4_p12 (inRk rfl)
  refine g_iload (pc := 110) (j := 0) (dK D_Mo_roomOn_1 8 rfl) rfl ?_
  exact vg_iretI (pc := 112) (r := p24) (dK D_Mo_roomOn_1 9 rfl) rfl (leK rfl) (leK rfl) (fun _ => rfl) (by obtain rfl := Option.some.inj h; exact ⟨rfl, hx4_p24, rfl⟩)
def fn_Mo_leftOn (c0 : Nat) (a1 : Int) (a2 : Int) (a3 : Int) (S : St) : Option (Int) := bnO (fn_Mo_storyOn c0 a1 (-1) S) fun p1 => if p1 = (-1) then (bnO (fn_Mo_roomOn c0 a1 a2 a3 S) fun p2 => some p2) else (some 0)
theorem tf_Mo_leftOn {E : EV} {X : XT} {c0 : Nat} (hc0 : HC X 11 c0) {a1 : Int} (ha1 : inR a1) {a2 : Int} (ha2 : inR a2) {a3 : Int} (ha3 : inR a3) {S : St} {q : Int} (h : fn_Mo_leftOn c0 a1 a2 a3 S = some q) : Ev E M_Mo_leftOn [.ref c0, V a1, V a2, V a3] (WX X S) 0 0 (KI X q S) := by
  refine Ev.of pn_Mo rfl (leK rfl) ?_
  show Go E M_Mo_leftOn 0 0 0 [(0, .ref c0), (1, V a1), (2, V a2), (3, V a3)] [] (WX X S) 0 0 (KI X q S)
  unfold fn_Mo_leftOn at h
  refine g_aloadn (pc := 0) (i0 := 0) (j := 0) (dK D_Mo_leftOn 0 rfl) rfl rfl ?_
  refine g_iloadn (pc := 1) (i0 := 1) (j := 1) (dK D_Mo_leftOn 1 rfl) rfl rfl ?_
  refine vg_iconst (pc := 2) (dK D_Mo_leftOn 2 rfl) ?_
  refine bnE h (fun p1 e_p1 h => ?_)
  refine vg_cV (pc := 3) (As := [V a1, V (-1)]) (rest := []) (mc' := 0) (ms' := 0) (dK D_Mo_leftOn 3 rfl) K_Mo_95 (fitK rfl) (ltK rfl) hc0 rfl (leK rfl) (leK rfl) (leK rfl) (tf_Mo_storyOn hc0 ha1 (inRk rfl) e_p1) (kcI (fun h_p1 => ?_))
  refine vg_iconst (pc := 6) (dK D_Mo_leftOn 4 rfl) ?_
  refine vg_icmp_ne (pc := 7) (t := 20) (dK D_Mo_leftOn 5 rfl) rfl h_p1 (inRk rfl) (fun hc3 => ?_) (fun hc3 => ?_)
  · replace h := ifN h hc3
    refine vg_iconst (pc := 20) (dK D_Mo_leftOn 12 rfl) ?_
    exact vg_iretI (pc := 21) (r := 0) (dK D_Mo_leftOn 13 rfl) rfl (leK rfl) (leK rfl) (fun _ => rfl) (by obtain rfl := Option.some.inj h; exact ⟨rfl, (inRk rfl), rfl⟩)
  · replace h := ifP h hc3
    refine g_aloadn (pc := 10) (i0 := 0) (j := 0) (dK D_Mo_leftOn 6 rfl) rfl rfl ?_
    refine g_iloadn (pc := 11) (i0 := 1) (j := 1) (dK D_Mo_leftOn 7 rfl) rfl rfl ?_
    refine g_iloadn (pc := 12) (i0 := 2) (j := 2) (dK D_Mo_leftOn 8 rfl) rfl rfl ?_
    refine g_iloadn (pc := 13) (i0 := 3) (j := 3) (dK D_Mo_leftOn 9 rfl) rfl rfl ?_
    refine bnE h (fun p2 e_p2 h => ?_)
    refine vg_cV (pc := 14) (As := [V a1, V a2, V a3]) (rest := []) (mc' := 0) (ms' := 0) (dK D_Mo_leftOn 10 rfl) K_Mo_98 (fitK rfl) (ltK rfl) hc0 rfl (leK rfl) (leK rfl) (leK rfl) (tf_Mo_roomOn hc0 ha1 ha2 ha3 e_p2) (kcI (fun h_p2 => ?_))
    refine g_goto (pc := 17) (tgt := 21) (dK D_Mo_leftOn 11 rfl) rfl ?_
    exact vg_iretI (pc := 21) (r := p2) (dK D_Mo_leftOn 13 rfl) rfl (leK rfl) (leK rfl) (fun _ => rfl) (by obtain rfl := Option.some.inj h; exact ⟨rfl, h_p2, rfl⟩)
def fn_Mo_hasColor (c0 : Nat) (a1 : Int) (S : St) : Option (Bool) := bnO (fn_Mo_formOf c0 a1 S) fun p1 => bnO (fn_Mo_ofForm c0 p1 0 S) fun p2 => if p2 = 1 then (some true) else (some false)
theorem tf_Mo_hasColor {E : EV} {X : XT} {c0 : Nat} (hc0 : HC X 11 c0) {a1 : Int} (ha1 : inR a1) {S : St} {q : Bool} (h : fn_Mo_hasColor c0 a1 S = some q) : Ev E M_Mo_hasColor [.ref c0, V a1] (WX X S) 0 0 (KB X q S) := by
  refine Ev.of pn_Mo rfl (leK rfl) ?_
  show Go E M_Mo_hasColor 0 0 0 [(0, .ref c0), (1, V a1)] [] (WX X S) 0 0 (KB X q S)
  unfold fn_Mo_hasColor at h
  refine g_aloadn (pc := 0) (i0 := 0) (j := 0) (dK D_Mo_hasColor 0 rfl) rfl rfl ?_
  refine g_aloadn (pc := 1) (i0 := 0) (j := 0) (dK D_Mo_hasColor 1 rfl) rfl rfl ?_
  refine g_iloadn (pc := 2) (i0 := 1) (j := 1) (dK D_Mo_hasColor 2 rfl) rfl rfl ?_
  refine bnE h (fun p1 e_p1 h => ?_)
  refine vg_cV (pc := 3) (As := [V a1]) (rest := [.ref c0]) (mc' := 0) (ms' := 0) (dK D_Mo_hasColor 3 rfl) K_Mo_74 (fitK rfl) (ltK rfl) hc0 rfl (leK rfl) (leK rfl) (leK rfl) (tf_Mo_formOf hc0 ha1 e_p1) (kcI (fun h_p1 => ?_))
  refine vg_iconst (pc := 6) (dK D_Mo_hasColor 4 rfl) ?_
  refine bnE h (fun p2 e_p2 h => ?_)
  refine vg_cV (pc := 7) (As := [V p1, V 0]) (rest := []) (mc' := 0) (ms' := 0) (dK D_Mo_hasColor 5 rfl) K_Mo_78 (fitK rfl) (ltK rfl) hc0 rfl (leK rfl) (leK rfl) (leK rfl) (tf_Mo_ofForm hc0 h_p1 (inRk rfl) e_p2) (kcI (fun h_p2 => ?_))
  refine vg_iconst (pc := 10) (dK D_Mo_hasColor 6 rfl) ?_
  refine vg_icmp_ne (pc := 11) (t := 18) (dK D_Mo_hasColor 7 rfl) rfl h_p2 (inRk rfl) (fun hc3 => ?_) (fun hc3 => ?_)
  · replace h := ifN h hc3
    refine vg_iconst (pc := 18) (dK D_Mo_hasColor 10 rfl) ?_
    exact vg_iretB (pc := 19) (b := false) (dK D_Mo_hasColor 11 rfl) rfl (leK rfl) (leK rfl) (fun _ => rfl) (by obtain rfl := Option.some.inj h; exact ⟨rfl, rfl⟩)
  · replace h := ifP h hc3
    refine vg_iconst (pc := 14) (dK D_Mo_hasColor 8 rfl) ?_
    refine g_goto (pc := 15) (tgt := 19) (dK D_Mo_hasColor 9 rfl) rfl ?_
    exact vg_iretB (pc := 19) (b := true) (dK D_Mo_hasColor 11 rfl) rfl (leK rfl) (leK rfl) (fun _ => rfl) (by obtain rfl := Option.some.inj h; exact ⟨rfl, rfl⟩)
def fn_Mo_isOnSide (a0 : Int) (a1 : Int) (S : St) : Option (Bool) := if a1 = 0 then (some true) else (if a1 = 2 then (nm (wr (a0.tmod 2)) fun v3 => if v3 = 1 then (some true) else (some false)) else (nm (wr (a0.tmod 2)) fun v1 => if v1 = 0 then (some true) else (some false)))
theorem tf_Mo_isOnSide {E : EV} {X : XT} {a0 : Int} (ha0 : inR a0) {a1 : Int} (ha1 : inR a1) {S : St} {q : Bool} (h : fn_Mo_isOnSide a0 a1 S = some q) : Ev E M_Mo_isOnSide [V a0, V a1] (WX X S) 0 0 (KB X q S) := by
  refine Ev.of pn_Mo rfl (leK rfl) ?_
  show Go E M_Mo_isOnSide 0 0 0 [(0, V a0), (1, V a1)] [] (WX X S) 0 0 (KB X q S)
  unfold fn_Mo_isOnSide at h
  refine g_iloadn (pc := 0) (i0 := 1) (j := 1) (dK D_Mo_isOnSide 0 rfl) rfl rfl ?_
  refine vg_if_eq (pc := 1) (t := 20) (dK D_Mo_isOnSide 1 rfl) rfl ha1 (fun hc6 => ?_) (fun hc6 => ?_)
  · replace h := ifP h hc6
    refine vg_iconst (pc := 20) (dK D_Mo_isOnSide 12 rfl) ?_
    refine g_goto (pc := 21) (tgt := 25) (dK D_Mo_isOnSide 13 rfl) rfl ?_
    exact vg_iretB (pc := 25) (b := true) (dK D_Mo_isOnSide 15 rfl) rfl (leK rfl) (leK rfl) (fun _ => rfl) (by obtain rfl := Option.some.inj h; exact ⟨rfl, rfl⟩)
  · replace h := ifN h hc6
    refine g_iloadn (pc := 4) (i0 := 0) (j := 0) (dK D_Mo_isOnSide 2 rfl) rfl rfl ?_
    refine vg_iconst (pc := 5) (dK D_Mo_isOnSide 3 rfl) ?_
    refine vg_irem (pc := 6) (dK D_Mo_isOnSide 4 rfl) ha0 (inRk rfl) (by decide) ?_
    refine g_iloadn (pc := 7) (i0 := 1) (j := 1) (dK D_Mo_isOnSide 5 rfl) rfl rfl ?_
    refine vg_iconst (pc := 8) (dK D_Mo_isOnSide 6 rfl) ?_
    refine vg_icmp_ne (pc := 9) (t := 16) (dK D_Mo_isOnSide 7 rfl) rfl ha1 (inRk rfl) (fun hc5 => ?_) (fun hc5 => ?_)
    · replace h := ifN h hc5
      refine vg_iconst (pc := 16) (dK D_Mo_isOnSide 10 rfl) ?_
      refine nmE h (fun v1 e_v1 h => ?_)
      refine gsk (st' := [V 0, V v1]) (by rw [Vn e_v1]) ?_
      refine vg_icmp_ne (pc := 17) (t := 24) (dK D_Mo_isOnSide 11 rfl) rfl (Vn_in e_v1) (inRk rfl) (fun hc2 => ?_) (fun hc2 => ?_)
      · replace h := ifN h hc2
        refine vg_iconst (pc := 24) (dK D_Mo_isOnSide 14 rfl) ?_
        exact vg_iretB (pc := 25) (b := false) (dK D_Mo_isOnSide 15 rfl) rfl (leK rfl) (leK rfl) (fun _ => rfl) (by obtain rfl := Option.some.inj h; exact ⟨rfl, rfl⟩)
      · replace h := ifP h hc2
        refine vg_iconst (pc := 20) (dK D_Mo_isOnSide 12 rfl) ?_
        refine g_goto (pc := 21) (tgt := 25) (dK D_Mo_isOnSide 13 rfl) rfl ?_
        exact vg_iretB (pc := 25) (b := true) (dK D_Mo_isOnSide 15 rfl) rfl (leK rfl) (leK rfl) (fun _ => rfl) (by obtain rfl := Option.some.inj h; exact ⟨rfl, rfl⟩)
    · replace h := ifP h hc5
      refine vg_iconst (pc := 12) (dK D_Mo_isOnSide 8 rfl) ?_
      refine g_goto (pc := 13) (tgt := 17) (dK D_Mo_isOnSide 9 rfl) rfl ?_
      refine nmE h (fun v3 e_v3 h => ?_)
      refine gsk (st' := [V 1, V v3]) (by rw [Vn e_v3]) ?_
      refine vg_icmp_ne (pc := 17) (t := 24) (dK D_Mo_isOnSide 11 rfl) rfl (Vn_in e_v3) (inRk rfl) (fun hc4 => ?_) (fun hc4 => ?_)
      · replace h := ifN h hc4
        refine vg_iconst (pc := 24) (dK D_Mo_isOnSide 14 rfl) ?_
        exact vg_iretB (pc := 25) (b := false) (dK D_Mo_isOnSide 15 rfl) rfl (leK rfl) (leK rfl) (fun _ => rfl) (by obtain rfl := Option.some.inj h; exact ⟨rfl, rfl⟩)
      · replace h := ifP h hc4
        refine vg_iconst (pc := 20) (dK D_Mo_isOnSide 12 rfl) ?_
        refine g_goto (pc := 21) (tgt := 25) (dK D_Mo_isOnSide 13 rfl) rfl ?_
        exact vg_iretB (pc := 25) (b := true) (dK D_Mo_isOnSide 15 rfl) rfl (leK rfl) (leK rfl) (fun _ => rfl) (by obtain rfl := Option.some.inj h; exact ⟨rfl, rfl⟩)
def lb_Mo_hasRival_5 (c0 : Nat) (a1 : Int) (a2 : Int) (S : St) (go : Int × Int → Option (Int)) (a3 : Int) (a4 : Int) : Option (Int) := if (g S (tgt c0 0) 1) ≤ a4 then (some a3) else (if a4 = a1 then (nm (wr (a4 + 1)) fun v1 => go ((i_or a3 0), v1)) else (bnO (fn_Mo_ofAd c0 a4 6 S) fun p2 => if p2 ≤ 0 then (nm (wr (a4 + 1)) fun v3 => go ((i_or a3 0), v3)) else (bnO (fn_Mo_ofAd c0 a4 6 S) fun p4 => nm (wr (p4.tdiv 2)) fun v5 => if v5 = a2 then (bnO (fn_Mo_ofAd c0 a4 1 S) fun p7 => bnO (fn_Mo_ofAd c0 a1 1 S) fun p8 => if p7 = p8 then (nm (wr (a4 + 1)) fun v10 => go ((i_or a3 1), v10)) else (nm (wr (a4 + 1)) fun v9 => go ((i_or a3 0), v9))) else (nm (wr (a4 + 1)) fun v6 => go ((i_or a3 0), v6)))))
def lo_Mo_hasRival_5 (c0 : Nat) (a1 : Int) (a2 : Int) (S : St) : Nat → Int × Int → Option (Int) := lp fun go p => lb_Mo_hasRival_5 c0 a1 a2 S go p.1 p.2
theorem tl_Mo_hasRival_5 {E : EV} {X : XT} {c0 : Nat} (hc0 : HC X 11 c0) {a1 : Int} (ha1 : inR a1) {a2 : Int} (ha2 : inR a2) {S : St} {K : RK → PS → Prop} {q : Int} (hx : inR q → Go E M_Mo_hasRival 0 0 77 [(0, .ref c0), (1, V a1), (3, V q)] [] (WX X S) 0 0 K) : ∀ n a, lo_Mo_hasRival_5 c0 a1 a2 S n a = some q → inR a.1 → inR a.2 → Go E M_Mo_hasRival 0 0 5 [(0, .ref c0), (1, V a1), (2, V a2), (3, V a.1), (4, V a.2)] [] (WX X S) 0 0 K := by
  refine lp_ind (P := fun a : Int × Int => inR a.1 → inR a.2 → Go E M_Mo_hasRival 0 0 5 [(0, .ref c0), (1, V a1), (2, V a2), (3, V a.1), (4, V a.2)] [] (WX X S) 0 0 K) (fun go ih a h => ?_)
  obtain ⟨a3, a4⟩ := a
  intro ha3 ha4
  show Go E M_Mo_hasRival 0 0 5 [(0, .ref c0), (1, V a1), (2, V a2), (3, V a3), (4, V a4)] [] (WX X S) 0 0 K
  replace h : lb_Mo_hasRival_5 c0 a1 a2 S go a3 a4 = some q := h
  unfold lb_Mo_hasRival_5 at h
  refine g_iload (pc := 5) (j := 4) (dK D_Mo_hasRival_0 4 rfl) rfl ?_
  refine g_aloadn (pc := 7) (i0 := 0) (j := 0) (dK D_Mo_hasRival_0 5 rfl) rfl rfl ?_
  refine vg_getA (pc := 8) (ci := 11) (f := 0) (dK D_Mo_hasRival_0 6 rfl) q_1442 hc0 (ltK rfl) (ltK rfl) rfl ?_
  refine vg_iconst (pc := 11) (dK D_Mo_hasRival_0 7 rfl) ?_
  refine vg_iaload (pc := 12) (j := 1) (dK D_Mo_hasRival_0 8 rfl) (hw_11_0 hc0) rfl ⟨by decide, by decide⟩ rfl ?_
  refine vg_icmp_ge (pc := 13) (t := 77) (dK D_Mo_hasRival_0 9 rfl) rfl ha4 (g_in _ _ _) (fun hc15 => ?_) (fun hc15 => ?_)
  · replace h := ifP h hc15
    obtain rfl := Option.some.inj h
    refine gL_weak (ls' := [(0, .ref c0), (1, V a1), (3, V a3)]) (sbc 0 rfl (sbc 1 rfl (sbc 3 rfl sbn))) ?_
    exact hx ha3
  · replace h := ifN h hc15
    refine g_iloadn (pc := 16) (i0 := 3) (j := 3) (dK D_Mo_hasRival_0 10 rfl) rfl rfl ?_
    refine g_iload (pc := 17) (j := 4) (dK D_Mo_hasRival_0 11 rfl) rfl ?_
    refine g_iloadn (pc := 19) (i0 := 1) (j := 1) (dK D_Mo_hasRival_0 12 rfl) rfl rfl ?_
    refine vg_icmp_eq (pc := 20) (t := 68) (dK D_Mo_hasRival_0 13 rfl) rfl ha4 ha1 (fun hc14 => ?_) (fun hc14 => ?_)
    · replace h := ifP h hc14
      refine vg_iconst (pc := 68) (dK D_Mo_hasRival_0 38 rfl) ?_
      refine vg_ior (pc := 69) (dK D_Mo_hasRival_0 39 rfl) ?_
      refine g_istoren (pc := 70) (i0 := 3) (ls2 := [(3, V (i_or a3 0)), (0, .ref c0), (1, V a1), (2, V a2), (4, V a4)]) (dK D_Mo_hasRival_0 40 rfl) rfl (ltK rfl) rfl ?_
      refine nmE h (fun v1 e_v1 h => ?_)
      refine vg_iinc (pc := 71) (j := 4) (a := a4) (z := 1) (ls2 := [(4, V v1), (3, V (i_or a3 0)), (0, .ref c0), (1, V a1), (2, V a2)]) (dK D_Mo_hasRival_0 41 rfl) rfl e_v1 (ltK rfl) rfl ?_
      refine g_goto (pc := 74) (tgt := 5) (dK D_Mo_hasRival_0 42 rfl) rfl ?_
      refine gL_weak (ls' := [(0, .ref c0), (1, V a1), (2, V a2), (3, V (i_or a3 0)), (4, V v1)]) (sbc 2 rfl (sbc 3 rfl (sbc 4 rfl (sbc 1 rfl (sbc 0 rfl sbn))))) ?_
      replace h := ih _ h
      exact h (toInt_in _) (Vn_in e_v1)
    · replace h := ifN h hc14
      refine g_aloadn (pc := 23) (i0 := 0) (j := 0) (dK D_Mo_hasRival_0 14 rfl) rfl rfl ?_
      refine g_iload (pc := 24) (j := 4) (dK D_Mo_hasRival_0 15 rfl) rfl ?_
      refine vg_bipush (pc := 26) (dK D_Mo_hasRival_0 16 rfl) rfl ?_
      refine bnE h (fun p2 e_p2 h => ?_)
      refine vg_cV (pc := 28) (As := [V a4, V 6]) (rest := [V a3]) (mc' := 0) (ms' := 0) (dK D_Mo_hasRival_0 17 rfl) K_Mo_82 (fitK rfl) (ltK rfl) hc0 rfl (leK rfl) (leK rfl) (leK rfl) (tf_Mo_ofAd hc0 ha4 (inRk rfl) e_p2) (kcI (fun h_p2 => ?_))
      refine vg_if_le (pc := 31) (t := 68) (dK D_Mo_hasRival_0 18 rfl) rfl h_p2 (fun hc13 => ?_) (fun hc13 => ?_)
      · replace h := ifP h hc13
        refine vg_iconst (pc := 68) (dK D_Mo_hasRival_0 38 rfl) ?_
        refine vg_ior (pc := 69) (dK D_Mo_hasRival_0 39 rfl) ?_
        refine g_istoren (pc := 70) (i0 := 3) (ls2 := [(3, V (i_or a3 0)), (0, .ref c0), (1, V a1), (2, V a2), (4, V a4)]) (dK D_Mo_hasRival_0 40 rfl) rfl (ltK rfl) rfl ?_
        refine nmE h (fun v3 e_v3 h => ?_)
        refine vg_iinc (pc := 71) (j := 4) (a := a4) (z := 1) (ls2 := [(4, V v3), (3, V (i_or a3 0)), (0, .ref c0), (1, V a1), (2, V a2)]) (dK D_Mo_hasRival_0 41 rfl) rfl e_v3 (ltK rfl) rfl ?_
        refine g_goto (pc := 74) (tgt := 5) (dK D_Mo_hasRival_0 42 rfl) rfl ?_
        refine gL_weak (ls' := [(0, .ref c0), (1, V a1), (2, V a2), (3, V (i_or a3 0)), (4, V v3)]) (sbc 2 rfl (sbc 3 rfl (sbc 4 rfl (sbc 1 rfl (sbc 0 rfl sbn))))) ?_
        replace h := ih _ h
        exact h (toInt_in _) (Vn_in e_v3)
      · replace h := ifN h hc13
        refine g_aloadn (pc := 34) (i0 := 0) (j := 0) (dK D_Mo_hasRival_0 19 rfl) rfl rfl ?_
        refine g_iload (pc := 35) (j := 4) (dK D_Mo_hasRival_0 20 rfl) rfl ?_
        refine vg_bipush (pc := 37) (dK D_Mo_hasRival_0 21 rfl) rfl ?_
        refine bnE h (fun p4 e_p4 h => ?_)
        refine vg_cV (pc := 39) (As := [V a4, V 6]) (rest := [V a3]) (mc' := 0) (ms' := 0) (dK D_Mo_hasRival_0 22 rfl) K_Mo_82 (fitK rfl) (ltK rfl) hc0 rfl (leK rfl) (leK rfl) (leK rfl) (tf_Mo_ofAd hc0 ha4 (inRk rfl) e_p4) (kcI (fun h_p4 => ?_))
        refine vg_iconst (pc := 42) (dK D_Mo_hasRival_0 23 rfl) ?_
        refine vg_idiv (pc := 43) (dK D_Mo_hasRival_0 24 rfl) h_p4 (inRk rfl) (by decide) ?_
        refine g_iloadn (pc := 44) (i0 := 2) (j := 2) (dK D_Mo_hasRival_0 25 rfl) rfl rfl ?_
        refine nmE h (fun v5 e_v5 h => ?_)
        refine gsk (st' := [V a2, V v5, V a3]) (by rw [Vn e_v5]) ?_
        refine vg_icmp_ne (pc := 45) (t := 68) (dK D_Mo_hasRival_0 26 rfl) rfl (Vn_in e_v5) ha2 (fun hc12 => ?_) (fun hc12 => ?_)
        · replace h := ifN h hc12
          refine vg_iconst (pc := 68) (dK D_Mo_hasRival_0 38 rfl) ?_
          refine vg_ior (pc := 69) (dK D_Mo_hasRival_0 39 rfl) ?_
          refine g_istoren (pc := 70) (i0 := 3) (ls2 := [(3, V (i_or a3 0)), (0, .ref c0), (1, V a1), (2, V a2), (4, V a4)]) (dK D_Mo_hasRival_0 40 rfl) rfl (ltK rfl) rfl ?_
          refine nmE h (fun v6 e_v6 h => ?_)
          refine vg_iinc (pc := 71) (j := 4) (a := a4) (z := 1) (ls2 := [(4, V v6), (3, V (i_or a3 0)), (0, .ref c0), (1, V a1), (2, V a2)]) (dK D_Mo_hasRival_0 41 rfl) rfl e_v6 (ltK rfl) rfl ?_
          refine g_goto (pc := 74) (tgt := 5) (dK D_Mo_hasRival_0 42 rfl) rfl ?_
          refine gL_weak (ls' := [(0, .ref c0), (1, V a1), (2, V a2), (3, V (i_or a3 0)), (4, V v6)]) (sbc 2 rfl (sbc 3 rfl (sbc 4 rfl (sbc 1 rfl (sbc 0 rfl sbn))))) ?_
          replace h := ih _ h
          exact h (toInt_in _) (Vn_in e_v6)
        · replace h := ifP h hc12
          refine g_aloadn (pc := 48) (i0 := 0) (j := 0) (dK D_Mo_hasRival_0 27 rfl) rfl rfl ?_
          refine g_iload (pc := 49) (j := 4) (dK D_Mo_hasRival_0 28 rfl) rfl ?_
          refine vg_iconst (pc := 51) (dK D_Mo_hasRival_0 29 rfl) ?_
          refine bnE h (fun p7 e_p7 h => ?_)
          refine vg_cV (pc := 52) (As := [V a4, V 1]) (rest := [V a3]) (mc' := 0) (ms' := 0) (dK D_Mo_hasRival_0 30 rfl) K_Mo_82 (fitK rfl) (ltK rfl) hc0 rfl (leK rfl) (leK rfl) (leK rfl) (tf_Mo_ofAd hc0 ha4 (inRk rfl) e_p7) (kcI (fun h_p7 => ?_))
          refine g_aloadn (pc := 55) (i0 := 0) (j := 0) (dK D_Mo_hasRival_0 31 rfl) rfl rfl ?_
          refine g_iloadn (pc := 56) (i0 := 1) (j := 1) (dK D_Mo_hasRival_0 32 rfl) rfl rfl ?_
          refine vg_iconst (pc := 57) (dK D_Mo_hasRival_0 33 rfl) ?_
          refine bnE h (fun p8 e_p8 h => ?_)
          refine vg_cV (pc := 58) (As := [V a1, V 1]) (rest := [V p7, V a3]) (mc' := 0) (ms' := 0) (dK D_Mo_hasRival_0 34 rfl) K_Mo_82 (fitK rfl) (ltK rfl) hc0 rfl (leK rfl) (leK rfl) (leK rfl) (tf_Mo_ofAd hc0 ha1 (inRk rfl) e_p8) (kcI (fun h_p8 => ?_))
          refine vg_icmp_ne (pc := 61) (t := 68) (dK D_Mo_hasRival_0 35 rfl) rfl h_p7 h_p8 (fun hc11 => ?_) (fun hc11 => ?_)
          · replace h := ifN h hc11
            refine vg_iconst (pc := 68) (dK D_Mo_hasRival_0 38 rfl) ?_
            refine vg_ior (pc := 69) (dK D_Mo_hasRival_0 39 rfl) ?_
            refine g_istoren (pc := 70) (i0 := 3) (ls2 := [(3, V (i_or a3 0)), (0, .ref c0), (1, V a1), (2, V a2), (4, V a4)]) (dK D_Mo_hasRival_0 40 rfl) rfl (ltK rfl) rfl ?_
            refine nmE h (fun v9 e_v9 h => ?_)
            refine vg_iinc (pc := 71) (j := 4) (a := a4) (z := 1) (ls2 := [(4, V v9), (3, V (i_or a3 0)), (0, .ref c0), (1, V a1), (2, V a2)]) (dK D_Mo_hasRival_0 41 rfl) rfl e_v9 (ltK rfl) rfl ?_
            refine g_goto (pc := 74) (tgt := 5) (dK D_Mo_hasRival_0 42 rfl) rfl ?_
            refine gL_weak (ls' := [(0, .ref c0), (1, V a1), (2, V a2), (3, V (i_or a3 0)), (4, V v9)]) (sbc 2 rfl (sbc 3 rfl (sbc 4 rfl (sbc 1 rfl (sbc 0 rfl sbn))))) ?_
            replace h := ih _ h
            exact h (toInt_in _) (Vn_in e_v9)
          · replace h := ifP h hc11
            refine vg_iconst (pc := 64) (dK D_Mo_hasRival_0 36 rfl) ?_
            refine g_goto (pc := 65) (tgt := 69) (dK D_Mo_hasRival_0 37 rfl) rfl ?_
            refine vg_ior (pc := 69) (dK D_Mo_hasRival_0 39 rfl) ?_
            refine g_istoren (pc := 70) (i0 := 3) (ls2 := [(3, V (i_or a3 1)), (0, .ref c0), (1, V a1), (2, V a2), (4, V a4)]) (dK D_Mo_hasRival_0 40 rfl) rfl (ltK rfl) rfl ?_
            refine nmE h (fun v10 e_v10 h => ?_)
            refine vg_iinc (pc := 71) (j := 4) (a := a4) (z := 1) (ls2 := [(4, V v10), (3, V (i_or a3 1)), (0, .ref c0), (1, V a1), (2, V a2)]) (dK D_Mo_hasRival_0 41 rfl) rfl e_v10 (ltK rfl) rfl ?_
            refine g_goto (pc := 74) (tgt := 5) (dK D_Mo_hasRival_0 42 rfl) rfl ?_
            refine gL_weak (ls' := [(0, .ref c0), (1, V a1), (2, V a2), (3, V (i_or a3 1)), (4, V v10)]) (sbc 2 rfl (sbc 3 rfl (sbc 4 rfl (sbc 1 rfl (sbc 0 rfl sbn))))) ?_
            replace h := ih _ h
            exact h (toInt_in _) (Vn_in e_v10)
def fn_Mo_hasRival (c0 : Nat) (a1 : Int) (a2 : Int) (S : St) : Option (Bool) := bnO (lo_Mo_hasRival_5 c0 a1 a2 S FU (0, 0)) fun p16 => if p16 = 0 then (some false) else (bnO (fn_Mo_ofAd c0 a1 1 S) fun p17 => if p17 = 0 then (some false) else (some true))
theorem tf_Mo_hasRival {E : EV} {X : XT} {c0 : Nat} (hc0 : HC X 11 c0) {a1 : Int} (ha1 : inR a1) {a2 : Int} (ha2 : inR a2) {S : St} {q : Bool} (h : fn_Mo_hasRival c0 a1 a2 S = some q) : Ev E M_Mo_hasRival [.ref c0, V a1, V a2] (WX X S) 0 0 (KB X q S) := by
  refine Ev.of pn_Mo rfl (leK rfl) ?_
  show Go E M_Mo_hasRival 0 0 0 [(0, .ref c0), (1, V a1), (2, V a2)] [] (WX X S) 0 0 (KB X q S)
  unfold fn_Mo_hasRival at h
  refine vg_iconst (pc := 0) (dK D_Mo_hasRival_0 0 rfl) ?_
  refine g_istoren (pc := 1) (i0 := 3) (ls2 := [(3, V 0), (0, .ref c0), (1, V a1), (2, V a2)]) (dK D_Mo_hasRival_0 1 rfl) rfl (ltK rfl) rfl ?_
  refine vg_iconst (pc := 2) (dK D_Mo_hasRival_0 2 rfl) ?_
  refine g_istore (pc := 3) (ls2 := [(4, V 0), (3, V 0), (0, .ref c0), (1, V a1), (2, V a2)]) (dK D_Mo_hasRival_0 3 rfl) (ltK rfl) rfl ?_
  refine bnE h (fun p16 e_p16 h => ?_)
  refine gL_weak (ls' := [(0, .ref c0), (1, V a1), (2, V a2), (3, V 0), (4, V 0)]) (sbc 2 rfl (sbc 3 rfl (sbc 4 rfl (sbc 1 rfl (sbc 0 rfl sbn))))) ?_
  refine tl_Mo_hasRival_5 hc0 ha1 ha2 (fun hx3_p16 => ?_) FU (0, 0) e_p16 (inRk rfl) (inRk rfl)
  refine g_iloadn (pc := 77) (i0 := 3) (j := 2) (dK D_Mo_hasRival_0 43 rfl) rfl rfl ?_
  refine vg_if_eq (pc := 78) (t := 94) (dK D_Mo_hasRival_0 44 rfl) rfl hx3_p16 (fun hc19 => ?_) (fun hc19 => ?_)
  · replace h := ifP h hc19
    refine vg_iconst (pc := 94) (dK D_Mo_hasRival_1 2 rfl) ?_
    exact vg_iretB (pc := 95) (b := false) (dK D_Mo_hasRival_1 3 rfl) rfl (leK rfl) (leK rfl) (fun _ => rfl) (by obtain rfl := Option.some.inj h; exact ⟨rfl, rfl⟩)
  · replace h := ifN h hc19
    refine g_aloadn (pc := 81) (i0 := 0) (j := 0) (dK D_Mo_hasRival_0 45 rfl) rfl rfl ?_
    refine g_iloadn (pc := 82) (i0 := 1) (j := 1) (dK D_Mo_hasRival_0 46 rfl) rfl rfl ?_
    refine vg_iconst (pc := 83) (dK D_Mo_hasRival_0 47 rfl) ?_
    refine bnE h (fun p17 e_p17 h => ?_)
    refine vg_cV (pc := 84) (As := [V a1, V 1]) (rest := []) (mc' := 0) (ms' := 0) (dK D_Mo_hasRival_0 48 rfl) K_Mo_82 (fitK rfl) (ltK rfl) hc0 rfl (leK rfl) (leK rfl) (leK rfl) (tf_Mo_ofAd hc0 ha1 (inRk rfl) e_p17) (kcI (fun h_p17 => ?_))
    refine vg_if_eq (pc := 87) (t := 94) (dK D_Mo_hasRival_0 49 rfl) rfl h_p17 (fun hc18 => ?_) (fun hc18 => ?_)
    · replace h := ifP h hc18
      refine vg_iconst (pc := 94) (dK D_Mo_hasRival_1 2 rfl) ?_
      exact vg_iretB (pc := 95) (b := false) (dK D_Mo_hasRival_1 3 rfl) rfl (leK rfl) (leK rfl) (fun _ => rfl) (by obtain rfl := Option.some.inj h; exact ⟨rfl, rfl⟩)
    · replace h := ifN h hc18
      refine vg_iconst (pc := 90) (dK D_Mo_hasRival_1 0 rfl) ?_
      refine g_goto (pc := 91) (tgt := 95) (dK D_Mo_hasRival_1 1 rfl) rfl ?_
      exact vg_iretB (pc := 95) (b := true) (dK D_Mo_hasRival_1 3 rfl) rfl (leK rfl) (leK rfl) (fun _ => rfl) (by obtain rfl := Option.some.inj h; exact ⟨rfl, rfl⟩)
def fn_Mo_reasonOf (c0 : Nat) (a1 : Int) (a2 : Int) (S : St) : Option (Int) := bnO (fn_Mo_isPage c0 a2 S) fun p1 => if p1 = true then (bnO (fn_Mo_isPrinted c0 a2 S) fun p3 => if p3 = true then (some 2) else (bnO (fn_Mo_leftOn c0 a2 a1 (-1) S) fun p5 => bnO (fn_Mo_ofAd c0 a1 0 S) fun p6 => if p6 ≤ p5 then (bnO (fn_Mo_ofAd c0 a1 2 S) fun p7 => if p7 = 1 then (bnO (fn_Mo_hasColor c0 a2 S) fun p14 => if p14 = true then (bnO (fn_Mo_ofAd c0 a1 3 S) fun p16 => bnO (fn_Mo_isOnSide a2 p16 S) fun p17 => if p17 = true then (nm (wr (a2.tdiv 2)) fun v19 => bnO (fn_Mo_hasRival c0 a1 v19 S) fun p20 => if p20 = true then (some 6) else (some 0)) else (some 5)) else (some 4)) else (bnO (fn_Mo_ofAd c0 a1 3 S) fun p8 => bnO (fn_Mo_isOnSide a2 p8 S) fun p9 => if p9 = true then (nm (wr (a2.tdiv 2)) fun v11 => bnO (fn_Mo_hasRival c0 a1 v11 S) fun p12 => if p12 = true then (some 6) else (some 0)) else (some 5))) else (some 3))) else (some 1)
theorem tf_Mo_reasonOf {E : EV} {X : XT} {c0 : Nat} (hc0 : HC X 11 c0) {a1 : Int} (ha1 : inR a1) {a2 : Int} (ha2 : inR a2) {S : St} {q : Int} (h : fn_Mo_reasonOf c0 a1 a2 S = some q) : Ev E M_Mo_reasonOf [.ref c0, V a1, V a2] (WX X S) 0 0 (KI X q S) := by
  refine Ev.of pn_Mo rfl (leK rfl) ?_
  show Go E M_Mo_reasonOf 0 0 0 [(0, .ref c0), (1, V a1), (2, V a2)] [] (WX X S) 0 0 (KI X q S)
  unfold fn_Mo_reasonOf at h
  refine g_aloadn (pc := 0) (i0 := 0) (j := 0) (dK D_Mo_reasonOf_0 0 rfl) rfl rfl ?_
  refine g_iloadn (pc := 1) (i0 := 2) (j := 2) (dK D_Mo_reasonOf_0 1 rfl) rfl rfl ?_
  refine bnE h (fun p1 e_p1 h => ?_)
  refine vg_cV (pc := 2) (As := [V a2]) (rest := []) (mc' := 0) (ms' := 0) (dK D_Mo_reasonOf_0 2 rfl) K_Mo_105 (fitK rfl) (ltK rfl) hc0 rfl (leK rfl) (leK rfl) (leK rfl) (tf_Mo_isPage hc0 ha2 e_p1) (kcB ?_)
  refine vg_ifB_ne (pc := 5) (b := p1) (t := 10) (dK D_Mo_reasonOf_0 3 rfl) rfl (fun hc2 => ?_) (fun hc2 => ?_)
  · replace h := ifP h hc2
    refine g_aloadn (pc := 10) (i0 := 0) (j := 0) (dK D_Mo_reasonOf_0 6 rfl) rfl rfl ?_
    refine g_iloadn (pc := 11) (i0 := 2) (j := 2) (dK D_Mo_reasonOf_0 7 rfl) rfl rfl ?_
    refine bnE h (fun p3 e_p3 h => ?_)
    refine vg_cV (pc := 12) (As := [V a2]) (rest := []) (mc' := 0) (ms' := 0) (dK D_Mo_reasonOf_0 8 rfl) K_Mo_109 (fitK rfl) (ltK rfl) hc0 rfl (leK rfl) (leK rfl) (leK rfl) (tf_Mo_isPrinted hc0 ha2 e_p3) (kcB ?_)
    refine vg_ifB_eq (pc := 15) (b := p3) (t := 20) (dK D_Mo_reasonOf_0 9 rfl) rfl (fun hc4 => ?_) (fun hc4 => ?_)
    · replace h := ifP h hc4
      refine vg_iconst (pc := 18) (dK D_Mo_reasonOf_0 10 rfl) ?_
      exact vg_iretI (pc := 19) (r := 2) (dK D_Mo_reasonOf_0 11 rfl) rfl (leK rfl) (leK rfl) (fun _ => rfl) (by obtain rfl := Option.some.inj h; exact ⟨rfl, (inRk rfl), rfl⟩)
    · replace h := ifN h hc4
      refine g_aloadn (pc := 20) (i0 := 0) (j := 0) (dK D_Mo_reasonOf_0 12 rfl) rfl rfl ?_
      refine g_iloadn (pc := 21) (i0 := 2) (j := 2) (dK D_Mo_reasonOf_0 13 rfl) rfl rfl ?_
      refine g_iloadn (pc := 22) (i0 := 1) (j := 1) (dK D_Mo_reasonOf_0 14 rfl) rfl rfl ?_
      refine vg_iconst (pc := 23) (dK D_Mo_reasonOf_0 15 rfl) ?_
      refine bnE h (fun p5 e_p5 h => ?_)
      refine vg_cV (pc := 24) (As := [V a2, V a1, V (-1)]) (rest := []) (mc' := 0) (ms' := 0) (dK D_Mo_reasonOf_0 16 rfl) K_Mo_102 (fitK rfl) (ltK rfl) hc0 rfl (leK rfl) (leK rfl) (leK rfl) (tf_Mo_leftOn hc0 ha2 ha1 (inRk rfl) e_p5) (kcI (fun h_p5 => ?_))
      refine g_aloadn (pc := 27) (i0 := 0) (j := 0) (dK D_Mo_reasonOf_0 17 rfl) rfl rfl ?_
      refine g_iloadn (pc := 28) (i0 := 1) (j := 1) (dK D_Mo_reasonOf_0 18 rfl) rfl rfl ?_
      refine vg_iconst (pc := 29) (dK D_Mo_reasonOf_0 19 rfl) ?_
      refine bnE h (fun p6 e_p6 h => ?_)
      refine vg_cV (pc := 30) (As := [V a1, V 0]) (rest := [V p5]) (mc' := 0) (ms' := 0) (dK D_Mo_reasonOf_0 20 rfl) K_Mo_82 (fitK rfl) (ltK rfl) hc0 rfl (leK rfl) (leK rfl) (leK rfl) (tf_Mo_ofAd hc0 ha1 (inRk rfl) e_p6) (kcI (fun h_p6 => ?_))
      refine vg_icmp_ge (pc := 33) (t := 38) (dK D_Mo_reasonOf_0 21 rfl) rfl h_p5 h_p6 (fun hc23 => ?_) (fun hc23 => ?_)
      · replace h := ifP h hc23
        refine g_aloadn (pc := 38) (i0 := 0) (j := 0) (dK D_Mo_reasonOf_0 24 rfl) rfl rfl ?_
        refine g_iloadn (pc := 39) (i0 := 1) (j := 1) (dK D_Mo_reasonOf_0 25 rfl) rfl rfl ?_
        refine vg_iconst (pc := 40) (dK D_Mo_reasonOf_0 26 rfl) ?_
        refine bnE h (fun p7 e_p7 h => ?_)
        refine vg_cV (pc := 41) (As := [V a1, V 2]) (rest := []) (mc' := 0) (ms' := 0) (dK D_Mo_reasonOf_0 27 rfl) K_Mo_82 (fitK rfl) (ltK rfl) hc0 rfl (leK rfl) (leK rfl) (leK rfl) (tf_Mo_ofAd hc0 ha1 (inRk rfl) e_p7) (kcI (fun h_p7 => ?_))
        refine vg_iconst (pc := 44) (dK D_Mo_reasonOf_0 28 rfl) ?_
        refine vg_icmp_ne (pc := 45) (t := 58) (dK D_Mo_reasonOf_0 29 rfl) rfl h_p7 (inRk rfl) (fun hc22 => ?_) (fun hc22 => ?_)
        · replace h := ifN h hc22
          refine g_iloadn (pc := 58) (i0 := 2) (j := 2) (dK D_Mo_reasonOf_0 36 rfl) rfl rfl ?_
          refine g_aloadn (pc := 59) (i0 := 0) (j := 0) (dK D_Mo_reasonOf_0 37 rfl) rfl rfl ?_
          refine g_iloadn (pc := 60) (i0 := 1) (j := 1) (dK D_Mo_reasonOf_0 38 rfl) rfl rfl ?_
          refine vg_iconst (pc := 61) (dK D_Mo_reasonOf_0 39 rfl) ?_
          refine bnE h (fun p8 e_p8 h => ?_)
          refine vg_cV (pc := 62) (As := [V a1, V 3]) (rest := [V a2]) (mc' := 0) (ms' := 0) (dK D_Mo_reasonOf_0 40 rfl) K_Mo_82 (fitK rfl) (ltK rfl) hc0 rfl (leK rfl) (leK rfl) (leK rfl) (tf_Mo_ofAd hc0 ha1 (inRk rfl) e_p8) (kcI (fun h_p8 => ?_))
          refine bnE h (fun p9 e_p9 h => ?_)
          refine vg_cS (pc := 65) (As := [V a2, V p8]) (rest := []) (mc' := 0) (ms' := 0) (dK D_Mo_reasonOf_0 41 rfl) K_Mo_115 (fitK rfl) rfl (leK rfl) (leK rfl) (leK rfl) (tf_Mo_isOnSide ha2 h_p8 e_p9) (kcB ?_)
          refine vg_ifB_ne (pc := 68) (b := p9) (t := 73) (dK D_Mo_reasonOf_0 42 rfl) rfl (fun hc10 => ?_) (fun hc10 => ?_)
          · replace h := ifP h hc10
            refine g_aloadn (pc := 73) (i0 := 0) (j := 0) (dK D_Mo_reasonOf_0 45 rfl) rfl rfl ?_
            refine g_iloadn (pc := 74) (i0 := 1) (j := 1) (dK D_Mo_reasonOf_0 46 rfl) rfl rfl ?_
            refine g_iloadn (pc := 75) (i0 := 2) (j := 2) (dK D_Mo_reasonOf_0 47 rfl) rfl rfl ?_
            refine vg_iconst (pc := 76) (dK D_Mo_reasonOf_0 48 rfl) ?_
            refine vg_idiv (pc := 77) (dK D_Mo_reasonOf_0 49 rfl) ha2 (inRk rfl) (by decide) ?_
            refine nmE h (fun v11 e_v11 h => ?_)
            refine gtop e_v11 ?_
            refine bnE h (fun p12 e_p12 h => ?_)
            refine vg_cV (pc := 78) (As := [V a1, V v11]) (rest := []) (mc' := 0) (ms' := 0) (dK D_Mo_reasonOf_1 0 rfl) K_Mo_118 (fitK rfl) (ltK rfl) hc0 rfl (leK rfl) (leK rfl) (leK rfl) (tf_Mo_hasRival hc0 ha1 (Vn_in e_v11) e_p12) (kcB ?_)
            refine vg_ifB_eq (pc := 81) (b := p12) (t := 89) (dK D_Mo_reasonOf_1 1 rfl) rfl (fun hc13 => ?_) (fun hc13 => ?_)
            · replace h := ifP h hc13
              refine vg_bipush (pc := 84) (dK D_Mo_reasonOf_1 2 rfl) rfl ?_
              refine g_goto (pc := 86) (tgt := 90) (dK D_Mo_reasonOf_1 3 rfl) rfl ?_
              exact vg_iretI (pc := 90) (r := 6) (dK D_Mo_reasonOf_1 5 rfl) rfl (leK rfl) (leK rfl) (fun _ => rfl) (by obtain rfl := Option.some.inj h; exact ⟨rfl, (inRk rfl), rfl⟩)
            · replace h := ifN h hc13
              refine vg_iconst (pc := 89) (dK D_Mo_reasonOf_1 4 rfl) ?_
              exact vg_iretI (pc := 90) (r := 0) (dK D_Mo_reasonOf_1 5 rfl) rfl (leK rfl) (leK rfl) (fun _ => rfl) (by obtain rfl := Option.some.inj h; exact ⟨rfl, (inRk rfl), rfl⟩)
          · replace h := ifN h hc10
            refine vg_iconst (pc := 71) (dK D_Mo_reasonOf_0 43 rfl) ?_
            exact vg_iretI (pc := 72) (r := 5) (dK D_Mo_reasonOf_0 44 rfl) rfl (leK rfl) (leK rfl) (fun _ => rfl) (by obtain rfl := Option.some.inj h; exact ⟨rfl, (inRk rfl), rfl⟩)
        · replace h := ifP h hc22
          refine g_aloadn (pc := 48) (i0 := 0) (j := 0) (dK D_Mo_reasonOf_0 30 rfl) rfl rfl ?_
          refine g_iloadn (pc := 49) (i0 := 2) (j := 2) (dK D_Mo_reasonOf_0 31 rfl) rfl rfl ?_
          refine bnE h (fun p14 e_p14 h => ?_)
          refine vg_cV (pc := 50) (As := [V a2]) (rest := []) (mc' := 0) (ms' := 0) (dK D_Mo_reasonOf_0 32 rfl) K_Mo_112 (fitK rfl) (ltK rfl) hc0 rfl (leK rfl) (leK rfl) (leK rfl) (tf_Mo_hasColor hc0 ha2 e_p14) (kcB ?_)
          refine vg_ifB_ne (pc := 53) (b := p14) (t := 58) (dK D_Mo_reasonOf_0 33 rfl) rfl (fun hc15 => ?_) (fun hc15 => ?_)
          · replace h := ifP h hc15
            refine g_iloadn (pc := 58) (i0 := 2) (j := 2) (dK D_Mo_reasonOf_0 36 rfl) rfl rfl ?_
            refine g_aloadn (pc := 59) (i0 := 0) (j := 0) (dK D_Mo_reasonOf_0 37 rfl) rfl rfl ?_
            refine g_iloadn (pc := 60) (i0 := 1) (j := 1) (dK D_Mo_reasonOf_0 38 rfl) rfl rfl ?_
            refine vg_iconst (pc := 61) (dK D_Mo_reasonOf_0 39 rfl) ?_
            refine bnE h (fun p16 e_p16 h => ?_)
            refine vg_cV (pc := 62) (As := [V a1, V 3]) (rest := [V a2]) (mc' := 0) (ms' := 0) (dK D_Mo_reasonOf_0 40 rfl) K_Mo_82 (fitK rfl) (ltK rfl) hc0 rfl (leK rfl) (leK rfl) (leK rfl) (tf_Mo_ofAd hc0 ha1 (inRk rfl) e_p16) (kcI (fun h_p16 => ?_))
            refine bnE h (fun p17 e_p17 h => ?_)
            refine vg_cS (pc := 65) (As := [V a2, V p16]) (rest := []) (mc' := 0) (ms' := 0) (dK D_Mo_reasonOf_0 41 rfl) K_Mo_115 (fitK rfl) rfl (leK rfl) (leK rfl) (leK rfl) (tf_Mo_isOnSide ha2 h_p16 e_p17) (kcB ?_)
            refine vg_ifB_ne (pc := 68) (b := p17) (t := 73) (dK D_Mo_reasonOf_0 42 rfl) rfl (fun hc18 => ?_) (fun hc18 => ?_)
            · replace h := ifP h hc18
              refine g_aloadn (pc := 73) (i0 := 0) (j := 0) (dK D_Mo_reasonOf_0 45 rfl) rfl rfl ?_
              refine g_iloadn (pc := 74) (i0 := 1) (j := 1) (dK D_Mo_reasonOf_0 46 rfl) rfl rfl ?_
              refine g_iloadn (pc := 75) (i0 := 2) (j := 2) (dK D_Mo_reasonOf_0 47 rfl) rfl rfl ?_
              refine vg_iconst (pc := 76) (dK D_Mo_reasonOf_0 48 rfl) ?_
              refine vg_idiv (pc := 77) (dK D_Mo_reasonOf_0 49 rfl) ha2 (inRk rfl) (by decide) ?_
              refine nmE h (fun v19 e_v19 h => ?_)
              refine gtop e_v19 ?_
              refine bnE h (fun p20 e_p20 h => ?_)
              refine vg_cV (pc := 78) (As := [V a1, V v19]) (rest := []) (mc' := 0) (ms' := 0) (dK D_Mo_reasonOf_1 0 rfl) K_Mo_118 (fitK rfl) (ltK rfl) hc0 rfl (leK rfl) (leK rfl) (leK rfl) (tf_Mo_hasRival hc0 ha1 (Vn_in e_v19) e_p20) (kcB ?_)
              refine vg_ifB_eq (pc := 81) (b := p20) (t := 89) (dK D_Mo_reasonOf_1 1 rfl) rfl (fun hc21 => ?_) (fun hc21 => ?_)
              · replace h := ifP h hc21
                refine vg_bipush (pc := 84) (dK D_Mo_reasonOf_1 2 rfl) rfl ?_
                refine g_goto (pc := 86) (tgt := 90) (dK D_Mo_reasonOf_1 3 rfl) rfl ?_
                exact vg_iretI (pc := 90) (r := 6) (dK D_Mo_reasonOf_1 5 rfl) rfl (leK rfl) (leK rfl) (fun _ => rfl) (by obtain rfl := Option.some.inj h; exact ⟨rfl, (inRk rfl), rfl⟩)
              · replace h := ifN h hc21
                refine vg_iconst (pc := 89) (dK D_Mo_reasonOf_1 4 rfl) ?_
                exact vg_iretI (pc := 90) (r := 0) (dK D_Mo_reasonOf_1 5 rfl) rfl (leK rfl) (leK rfl) (fun _ => rfl) (by obtain rfl := Option.some.inj h; exact ⟨rfl, (inRk rfl), rfl⟩)
            · replace h := ifN h hc18
              refine vg_iconst (pc := 71) (dK D_Mo_reasonOf_0 43 rfl) ?_
              exact vg_iretI (pc := 72) (r := 5) (dK D_Mo_reasonOf_0 44 rfl) rfl (leK rfl) (leK rfl) (fun _ => rfl) (by obtain rfl := Option.some.inj h; exact ⟨rfl, (inRk rfl), rfl⟩)
          · replace h := ifN h hc15
            refine vg_iconst (pc := 56) (dK D_Mo_reasonOf_0 34 rfl) ?_
            exact vg_iretI (pc := 57) (r := 4) (dK D_Mo_reasonOf_0 35 rfl) rfl (leK rfl) (leK rfl) (fun _ => rfl) (by obtain rfl := Option.some.inj h; exact ⟨rfl, (inRk rfl), rfl⟩)
      · replace h := ifN h hc23
        refine vg_iconst (pc := 36) (dK D_Mo_reasonOf_0 22 rfl) ?_
        exact vg_iretI (pc := 37) (r := 3) (dK D_Mo_reasonOf_0 23 rfl) rfl (leK rfl) (leK rfl) (fun _ => rfl) (by obtain rfl := Option.some.inj h; exact ⟨rfl, (inRk rfl), rfl⟩)
  · replace h := ifN h hc2
    refine vg_iconst (pc := 8) (dK D_Mo_reasonOf_0 4 rfl) ?_
    exact vg_iretI (pc := 9) (r := 1) (dK D_Mo_reasonOf_0 5 rfl) rfl (leK rfl) (leK rfl) (fun _ => rfl) (by obtain rfl := Option.some.inj h; exact ⟨rfl, (inRk rfl), rfl⟩)
def fn_Mo_reason (c0 : Nat) (a1 : Int) (a2 : Int) (S : St) : Option (Int × St) := nm (u S c0 4 0) fun S1 => bnO (fn_Mo_isAd c0 a1 S1) fun p2 => if p2 = true then (bnO (fn_Mo_throwsIf c0 0 1 S1) fun p4 => if p4.1 = true then (some (0, p4.2)) else (bnO (fn_Mo_reasonOf c0 a1 a2 p4.2) fun p6 => some (p6, p4.2))) else (bnO (fn_Mo_throwsIf c0 1 1 S1) fun p7 => if p7.1 = true then (some (0, p7.2)) else (bnO (fn_Mo_reasonOf c0 a1 a2 p7.2) fun p9 => some (p9, p7.2)))
theorem tf_Mo_reason {E : EV} {X : XT} {c0 : Nat} (hc0 : HC X 11 c0) {a1 : Int} (ha1 : inR a1) {a2 : Int} (ha2 : inR a2) {S : St} {q : Int × St} (h : fn_Mo_reason c0 a1 a2 S = some q) : Ev E M_Mo_reason [.ref c0, V a1, V a2] (WX X S) 0 0 (KI X q.1 q.2) := by
  refine Ev.of pn_Mo rfl (leK rfl) ?_
  show Go E M_Mo_reason 0 0 0 [(0, .ref c0), (1, V a1), (2, V a2)] [] (WX X S) 0 0 (KI X q.1 q.2)
  unfold fn_Mo_reason at h
  refine g_aloadn (pc := 0) (i0 := 0) (j := 0) (dK D_Mo_reason 0 rfl) rfl rfl ?_
  refine vg_iconst (pc := 1) (dK D_Mo_reason 1 rfl) ?_
  refine nmE h (fun S1 e_S1 h => ?_)
  refine vg_putI (pc := 2) (ci := 11) (f := 4) (z := 0) (dK D_Mo_reason 2 rfl) q_1446 hc0 (ltK rfl) (ltK rfl) rfl rfl e_S1 ?_
  refine g_aloadn (pc := 5) (i0 := 0) (j := 0) (dK D_Mo_reason 3 rfl) rfl rfl ?_
  refine g_aloadn (pc := 6) (i0 := 0) (j := 0) (dK D_Mo_reason 4 rfl) rfl rfl ?_
  refine g_iloadn (pc := 7) (i0 := 1) (j := 1) (dK D_Mo_reason 5 rfl) rfl rfl ?_
  refine bnE h (fun p2 e_p2 h => ?_)
  refine vg_cV (pc := 8) (As := [V a1]) (rest := [.ref c0]) (mc' := 0) (ms' := 0) (dK D_Mo_reason 6 rfl) K_Mo_122 (fitK rfl) (ltK rfl) hc0 rfl (leK rfl) (leK rfl) (leK rfl) (tf_Mo_isAd hc0 ha1 e_p2) (kcB ?_)
  refine vg_ifB_ne (pc := 11) (b := p2) (t := 18) (dK D_Mo_reason 7 rfl) rfl (fun hc3 => ?_) (fun hc3 => ?_)
  · replace h := ifP h hc3
    refine vg_iconst (pc := 18) (dK D_Mo_reason 10 rfl) ?_
    refine vg_iconst (pc := 19) (dK D_Mo_reason 11 rfl) ?_
    refine bnE h (fun p4 e_p4 h => ?_)
    refine vg_cV (pc := 20) (As := [V 0, V 1]) (rest := []) (mc' := 0) (ms' := 0) (dK D_Mo_reason 12 rfl) K_Mo_125 (fitK rfl) (ltK rfl) hc0 rfl (leK rfl) (leK rfl) (leK rfl) (tf_Mo_throwsIf hc0 (inRk rfl) (inRk rfl) e_p4) (kcB ?_)
    refine vg_ifB_eq (pc := 23) (b := p4.1) (t := 30) (dK D_Mo_reason 13 rfl) rfl (fun hc5 => ?_) (fun hc5 => ?_)
    · replace h := ifP h hc5
      refine vg_iconst (pc := 26) (dK D_Mo_reason 14 rfl) ?_
      refine g_goto (pc := 27) (tgt := 36) (dK D_Mo_reason 15 rfl) rfl ?_
      exact vg_iretI (pc := 36) (r := 0) (dK D_Mo_reason 20 rfl) rfl (leK rfl) (leK rfl) (fun _ => rfl) (by obtain rfl := Option.some.inj h; exact ⟨rfl, (inRk rfl), rfl⟩)
    · replace h := ifN h hc5
      refine g_aloadn (pc := 30) (i0 := 0) (j := 0) (dK D_Mo_reason 16 rfl) rfl rfl ?_
      refine g_iloadn (pc := 31) (i0 := 1) (j := 1) (dK D_Mo_reason 17 rfl) rfl rfl ?_
      refine g_iloadn (pc := 32) (i0 := 2) (j := 2) (dK D_Mo_reason 18 rfl) rfl rfl ?_
      refine bnE h (fun p6 e_p6 h => ?_)
      refine vg_cV (pc := 33) (As := [V a1, V a2]) (rest := []) (mc' := 0) (ms' := 0) (dK D_Mo_reason 19 rfl) K_Mo_129 (fitK rfl) (ltK rfl) hc0 rfl (leK rfl) (leK rfl) (leK rfl) (tf_Mo_reasonOf hc0 ha1 ha2 e_p6) (kcI (fun h_p6 => ?_))
      exact vg_iretI (pc := 36) (r := p6) (dK D_Mo_reason 20 rfl) rfl (leK rfl) (leK rfl) (fun _ => rfl) (by obtain rfl := Option.some.inj h; exact ⟨rfl, h_p6, rfl⟩)
  · replace h := ifN h hc3
    refine vg_iconst (pc := 14) (dK D_Mo_reason 8 rfl) ?_
    refine g_goto (pc := 15) (tgt := 19) (dK D_Mo_reason 9 rfl) rfl ?_
    refine vg_iconst (pc := 19) (dK D_Mo_reason 11 rfl) ?_
    refine bnE h (fun p7 e_p7 h => ?_)
    refine vg_cV (pc := 20) (As := [V 1, V 1]) (rest := []) (mc' := 0) (ms' := 0) (dK D_Mo_reason 12 rfl) K_Mo_125 (fitK rfl) (ltK rfl) hc0 rfl (leK rfl) (leK rfl) (leK rfl) (tf_Mo_throwsIf hc0 (inRk rfl) (inRk rfl) e_p7) (kcB ?_)
    refine vg_ifB_eq (pc := 23) (b := p7.1) (t := 30) (dK D_Mo_reason 13 rfl) rfl (fun hc8 => ?_) (fun hc8 => ?_)
    · replace h := ifP h hc8
      refine vg_iconst (pc := 26) (dK D_Mo_reason 14 rfl) ?_
      refine g_goto (pc := 27) (tgt := 36) (dK D_Mo_reason 15 rfl) rfl ?_
      exact vg_iretI (pc := 36) (r := 0) (dK D_Mo_reason 20 rfl) rfl (leK rfl) (leK rfl) (fun _ => rfl) (by obtain rfl := Option.some.inj h; exact ⟨rfl, (inRk rfl), rfl⟩)
    · replace h := ifN h hc8
      refine g_aloadn (pc := 30) (i0 := 0) (j := 0) (dK D_Mo_reason 16 rfl) rfl rfl ?_
      refine g_iloadn (pc := 31) (i0 := 1) (j := 1) (dK D_Mo_reason 17 rfl) rfl rfl ?_
      refine g_iloadn (pc := 32) (i0 := 2) (j := 2) (dK D_Mo_reason 18 rfl) rfl rfl ?_
      refine bnE h (fun p9 e_p9 h => ?_)
      refine vg_cV (pc := 33) (As := [V a1, V a2]) (rest := []) (mc' := 0) (ms' := 0) (dK D_Mo_reason 19 rfl) K_Mo_129 (fitK rfl) (ltK rfl) hc0 rfl (leK rfl) (leK rfl) (leK rfl) (tf_Mo_reasonOf hc0 ha1 ha2 e_p9) (kcI (fun h_p9 => ?_))
      exact vg_iretI (pc := 36) (r := p9) (dK D_Mo_reason 20 rfl) rfl (leK rfl) (leK rfl) (fun _ => rfl) (by obtain rfl := Option.some.inj h; exact ⟨rfl, h_p9, rfl⟩)
def fn_Mo_isStory (c0 : Nat) (a1 : Int) (S : St) : Option (Bool) := nm (wr ((g S (tgt c0 0) 2) - 1)) fun v1 => bnO (fn_Mo_inRange a1 0 v1 S) fun p2 => some p2
theorem tf_Mo_isStory {E : EV} {X : XT} {c0 : Nat} (hc0 : HC X 11 c0) {a1 : Int} (ha1 : inR a1) {S : St} {q : Bool} (h : fn_Mo_isStory c0 a1 S = some q) : Ev E M_Mo_isStory [.ref c0, V a1] (WX X S) 0 0 (KB X q S) := by
  refine Ev.of pn_Mo rfl (leK rfl) ?_
  show Go E M_Mo_isStory 0 0 0 [(0, .ref c0), (1, V a1)] [] (WX X S) 0 0 (KB X q S)
  unfold fn_Mo_isStory at h
  refine g_iloadn (pc := 0) (i0 := 1) (j := 1) (dK D_Mo_isStory 0 rfl) rfl rfl ?_
  refine vg_i2l (pc := 1) (dK D_Mo_isStory 1 rfl) ha1 ?_
  refine vg_lconst (pc := 2) (y := 0) (dK D_Mo_isStory 2 rfl) rfl ?_
  refine g_aloadn (pc := 3) (i0 := 0) (j := 0) (dK D_Mo_isStory 3 rfl) rfl rfl ?_
  refine vg_getA (pc := 4) (ci := 11) (f := 0) (dK D_Mo_isStory 4 rfl) q_1442 hc0 (ltK rfl) (ltK rfl) rfl ?_
  refine vg_iconst (pc := 7) (dK D_Mo_isStory 5 rfl) ?_
  refine vg_iaload (pc := 8) (j := 2) (dK D_Mo_isStory 6 rfl) (hw_11_0 hc0) rfl ⟨by decide, by decide⟩ rfl ?_
  refine vg_iconst (pc := 9) (dK D_Mo_isStory 7 rfl) ?_
  refine vg_isub (pc := 10) (dK D_Mo_isStory 8 rfl) ?_
  refine nmE h (fun v1 e_v1 h => ?_)
  refine gtop e_v1 ?_
  refine vg_i2l (pc := 11) (dK D_Mo_isStory 9 rfl) (Vn_in e_v1) ?_
  refine bnE h (fun p2 e_p2 h => ?_)
  refine vg_cS (pc := 12) (As := [J a1, J 0, J v1]) (rest := []) (mc' := 0) (ms' := 0) (dK D_Mo_isStory 10 rfl) K_Mo_67 (fitK rfl) rfl (leK rfl) (leK rfl) (leK rfl) (tf_Mo_inRange (inR_L ha1) (inLk rfl) (inR_L (Vn_in e_v1)) e_p2) (kcB ?_)
  exact vg_iretB (pc := 15) (b := p2) (dK D_Mo_isStory 11 rfl) rfl (leK rfl) (leK rfl) (fun _ => rfl) (by obtain rfl := Option.some.inj h; exact ⟨rfl, rfl⟩)
def lb_Mo_storyReasonOf_36 (c0 : Nat) (a1 : Int) (a2 : Int) (a3 : Int) (S : St) (go : Int × Int → Option (Int)) (a4 : Int) (a5 : Int) : Option (Int) := nm (wr (a2 + a3)) fun v6 => if v6 ≤ a5 then (some a4) else (bnO (fn_Mo_isPrinted c0 a5 S) fun p7 => if p7 = true then (if a4 ≤ 2 then (nm (wr (a5 + 1)) fun v32 => go (a4, v32)) else (nm (wr (a5 + 1)) fun v33 => go (2, v33))) else (bnO (fn_Mo_storyOn c0 a5 a1 S) fun p9 => if p9 = (-1) then (bnO (fn_Mo_roomOn c0 a5 (-1) (-1) S) fun p13 => if 4 ≤ p13 then (bnO (fn_Mo_ofStory c0 a1 1 S) fun p14 => if p14 = 1 then (bnO (fn_Mo_hasColor c0 a5 S) fun p18 => if p18 = true then (if a4 ≤ 1000000 then (nm (wr (a5 + 1)) fun v20 => go (a4, v20)) else (nm (wr (a5 + 1)) fun v21 => go (1000000, v21))) else (if a4 ≤ 4 then (nm (wr (a5 + 1)) fun v23 => go (a4, v23)) else (nm (wr (a5 + 1)) fun v24 => go (4, v24)))) else (if a4 ≤ 1000000 then (nm (wr (a5 + 1)) fun v15 => go (a4, v15)) else (nm (wr (a5 + 1)) fun v16 => go (1000000, v16)))) else (if a4 ≤ 3 then (nm (wr (a5 + 1)) fun v27 => go (a4, v27)) else (nm (wr (a5 + 1)) fun v28 => go (3, v28)))) else (if a4 ≤ 3 then (nm (wr (a5 + 1)) fun v10 => go (a4, v10)) else (nm (wr (a5 + 1)) fun v11 => go (3, v11)))))
def lo_Mo_storyReasonOf_36 (c0 : Nat) (a1 : Int) (a2 : Int) (a3 : Int) (S : St) : Nat → Int × Int → Option (Int) := lp fun go p => lb_Mo_storyReasonOf_36 c0 a1 a2 a3 S go p.1 p.2
theorem tl_Mo_storyReasonOf_36 {E : EV} {X : XT} {c0 : Nat} (hc0 : HC X 11 c0) {a1 : Int} (ha1 : inR a1) {a2 : Int} (ha2 : inR a2) {a3 : Int} (ha3 : inR a3) {S : St} {K : RK → PS → Prop} {q : Int} (hx : inR q → Go E M_Mo_storyReasonOf 0 0 133 [(0, .ref c0), (1, V a1), (2, V a2), (4, V q)] [] (WX X S) 0 0 K) : ∀ n a, lo_Mo_storyReasonOf_36 c0 a1 a2 a3 S n a = some q → inR a.1 → inR a.2 → Go E M_Mo_storyReasonOf 0 0 36 [(0, .ref c0), (1, V a1), (2, V a2), (3, V a3), (4, V a.1), (5, V a.2)] [] (WX X S) 0 0 K := by
  refine lp_ind (P := fun a : Int × Int => inR a.1 → inR a.2 → Go E M_Mo_storyReasonOf 0 0 36 [(0, .ref c0), (1, V a1), (2, V a2), (3, V a3), (4, V a.1), (5, V a.2)] [] (WX X S) 0 0 K) (fun go ih a h => ?_)
  obtain ⟨a4, a5⟩ := a
  intro ha4 ha5
  show Go E M_Mo_storyReasonOf 0 0 36 [(0, .ref c0), (1, V a1), (2, V a2), (3, V a3), (4, V a4), (5, V a5)] [] (WX X S) 0 0 K
  replace h : lb_Mo_storyReasonOf_36 c0 a1 a2 a3 S go a4 a5 = some q := h
  unfold lb_Mo_storyReasonOf_36 at h
  refine g_iload (pc := 36) (j := 5) (dK D_Mo_storyReasonOf_0 23 rfl) rfl ?_
  refine g_iloadn (pc := 38) (i0 := 2) (j := 2) (dK D_Mo_storyReasonOf_0 24 rfl) rfl rfl ?_
  refine g_iloadn (pc := 39) (i0 := 3) (j := 3) (dK D_Mo_storyReasonOf_0 25 rfl) rfl rfl ?_
  refine vg_iadd (pc := 40) (dK D_Mo_storyReasonOf_0 26 rfl) ?_
  refine nmE h (fun v6 e_v6 h => ?_)
  refine gtop e_v6 ?_
  refine vg_icmp_ge (pc := 41) (t := 133) (dK D_Mo_storyReasonOf_0 27 rfl) rfl ha5 (Vn_in e_v6) (fun hc35 => ?_) (fun hc35 => ?_)
  · replace h := ifP h hc35
    obtain rfl := Option.some.inj h
    refine gL_weak (ls' := [(0, .ref c0), (1, V a1), (2, V a2), (4, V a4)]) (sbc 0 rfl (sbc 1 rfl (sbc 2 rfl (sbc 4 rfl sbn)))) ?_
    exact hx ha4
  · replace h := ifN h hc35
    refine g_aloadn (pc := 44) (i0 := 0) (j := 0) (dK D_Mo_storyReasonOf_0 28 rfl) rfl rfl ?_
    refine g_iload (pc := 45) (j := 5) (dK D_Mo_storyReasonOf_0 29 rfl) rfl ?_
    refine bnE h (fun p7 e_p7 h => ?_)
    refine vg_cV (pc := 47) (As := [V a5]) (rest := []) (mc' := 0) (ms' := 0) (dK D_Mo_storyReasonOf_0 30 rfl) K_Mo_109 (fitK rfl) (ltK rfl) hc0 rfl (leK rfl) (leK rfl) (leK rfl) (tf_Mo_isPrinted hc0 ha5 e_p7) (kcB ?_)
    refine vg_ifB_eq (pc := 50) (b := p7) (t := 57) (dK D_Mo_storyReasonOf_0 31 rfl) rfl (fun hc8 => ?_) (fun hc8 => ?_)
    · replace h := ifP h hc8
      refine vg_iconst (pc := 53) (dK D_Mo_storyReasonOf_0 32 rfl) ?_
      refine g_goto (pc := 54) (tgt := 109) (dK D_Mo_storyReasonOf_0 33 rfl) rfl ?_
      refine g_istore (pc := 109) (ls2 := [(6, V 2), (0, .ref c0), (1, V a1), (2, V a2), (3, V a3), (4, V a4), (5, V a5)]) (dK D_Mo_storyReasonOf_1 12 rfl) (ltK rfl) rfl ?_
      refine g_iload (pc := 111) (j := 0) (dK D_Mo_storyReasonOf_1 13 rfl) rfl ?_
      refine g_iload (pc := 113) (j := 5) (dK D_Mo_storyReasonOf_1 14 rfl) rfl ?_
      refine vg_icmp_ge (pc := 115) (t := 123) (dK D_Mo_storyReasonOf_1 15 rfl) rfl (inRk rfl) ha4 (fun hc34 => ?_) (fun hc34 => ?_)
      · replace h := ifP h hc34
        refine g_iload (pc := 123) (j := 5) (dK D_Mo_storyReasonOf_1 18 rfl) rfl ?_
        refine g_istore (pc := 125) (ls2 := [(4, V a4), (6, V 2), (0, .ref c0), (1, V a1), (2, V a2), (3, V a3), (5, V a5)]) (dK D_Mo_storyReasonOf_1 19 rfl) (ltK rfl) rfl ?_
        refine nmE h (fun v32 e_v32 h => ?_)
        refine vg_iinc (pc := 127) (j := 6) (a := a5) (z := 1) (ls2 := [(5, V v32), (4, V a4), (6, V 2), (0, .ref c0), (1, V a1), (2, V a2), (3, V a3)]) (dK D_Mo_storyReasonOf_1 20 rfl) rfl e_v32 (ltK rfl) rfl ?_
        refine g_goto (pc := 130) (tgt := 36) (dK D_Mo_storyReasonOf_1 21 rfl) rfl ?_
        refine gL_weak (ls' := [(0, .ref c0), (1, V a1), (2, V a2), (3, V a3), (4, V a4), (5, V v32)]) (sbc 3 rfl (sbc 4 rfl (sbc 5 rfl (sbc 6 rfl (sbc 1 rfl (sbc 0 rfl sbn)))))) ?_
        replace h := ih _ h
        exact h ha4 (Vn_in e_v32)
      · replace h := ifN h hc34
        refine g_iload (pc := 118) (j := 0) (dK D_Mo_storyReasonOf_1 16 rfl) rfl ?_
        refine g_goto (pc := 120) (tgt := 125) (dK D_Mo_storyReasonOf_1 17 rfl) rfl ?_
        refine g_istore (pc := 125) (ls2 := [(4, V 2), (6, V 2), (0, .ref c0), (1, V a1), (2, V a2), (3, V a3), (5, V a5)]) (dK D_Mo_storyReasonOf_1 19 rfl) (ltK rfl) rfl ?_
        refine nmE h (fun v33 e_v33 h => ?_)
        refine vg_iinc (pc := 127) (j := 6) (a := a5) (z := 1) (ls2 := [(5, V v33), (4, V 2), (6, V 2), (0, .ref c0), (1, V a1), (2, V a2), (3, V a3)]) (dK D_Mo_storyReasonOf_1 20 rfl) rfl e_v33 (ltK rfl) rfl ?_
        refine g_goto (pc := 130) (tgt := 36) (dK D_Mo_storyReasonOf_1 21 rfl) rfl ?_
        refine gL_weak (ls' := [(0, .ref c0), (1, V a1), (2, V a2), (3, V a3), (4, V 2), (5, V v33)]) (sbc 3 rfl (sbc 4 rfl (sbc 5 rfl (sbc 6 rfl (sbc 1 rfl (sbc 0 rfl sbn)))))) ?_
        replace h := ih _ h
        exact h (inRk rfl) (Vn_in e_v33)
    · replace h := ifN h hc8
      refine g_aloadn (pc := 57) (i0 := 0) (j := 0) (dK D_Mo_storyReasonOf_0 34 rfl) rfl rfl ?_
      refine g_iload (pc := 58) (j := 5) (dK D_Mo_storyReasonOf_0 35 rfl) rfl ?_
      refine g_iloadn (pc := 60) (i0 := 1) (j := 1) (dK D_Mo_storyReasonOf_0 36 rfl) rfl rfl ?_
      refine bnE h (fun p9 e_p9 h => ?_)
      refine vg_cV (pc := 61) (As := [V a5, V a1]) (rest := []) (mc' := 0) (ms' := 0) (dK D_Mo_storyReasonOf_0 37 rfl) K_Mo_95 (fitK rfl) (ltK rfl) hc0 rfl (leK rfl) (leK rfl) (leK rfl) (tf_Mo_storyOn hc0 ha5 ha1 e_p9) (kcI (fun h_p9 => ?_))
      refine vg_iconst (pc := 64) (dK D_Mo_storyReasonOf_0 38 rfl) ?_
      refine vg_icmp_ne (pc := 65) (t := 80) (dK D_Mo_storyReasonOf_0 39 rfl) rfl h_p9 (inRk rfl) (fun hc31 => ?_) (fun hc31 => ?_)
      · replace h := ifN h hc31
        refine vg_iconst (pc := 80) (dK D_Mo_storyReasonOf_0 47 rfl) ?_
        refine g_goto (pc := 81) (tgt := 109) (dK D_Mo_storyReasonOf_0 48 rfl) rfl ?_
        refine g_istore (pc := 109) (ls2 := [(6, V 3), (0, .ref c0), (1, V a1), (2, V a2), (3, V a3), (4, V a4), (5, V a5)]) (dK D_Mo_storyReasonOf_1 12 rfl) (ltK rfl) rfl ?_
        refine g_iload (pc := 111) (j := 0) (dK D_Mo_storyReasonOf_1 13 rfl) rfl ?_
        refine g_iload (pc := 113) (j := 5) (dK D_Mo_storyReasonOf_1 14 rfl) rfl ?_
        refine vg_icmp_ge (pc := 115) (t := 123) (dK D_Mo_storyReasonOf_1 15 rfl) rfl (inRk rfl) ha4 (fun hc12 => ?_) (fun hc12 => ?_)
        · replace h := ifP h hc12
          refine g_iload (pc := 123) (j := 5) (dK D_Mo_storyReasonOf_1 18 rfl) rfl ?_
          refine g_istore (pc := 125) (ls2 := [(4, V a4), (6, V 3), (0, .ref c0), (1, V a1), (2, V a2), (3, V a3), (5, V a5)]) (dK D_Mo_storyReasonOf_1 19 rfl) (ltK rfl) rfl ?_
          refine nmE h (fun v10 e_v10 h => ?_)
          refine vg_iinc (pc := 127) (j := 6) (a := a5) (z := 1) (ls2 := [(5, V v10), (4, V a4), (6, V 3), (0, .ref c0), (1, V a1), (2, V a2), (3, V a3)]) (dK D_Mo_storyReasonOf_1 20 rfl) rfl e_v10 (ltK rfl) rfl ?_
          refine g_goto (pc := 130) (tgt := 36) (dK D_Mo_storyReasonOf_1 21 rfl) rfl ?_
          refine gL_weak (ls' := [(0, .ref c0), (1, V a1), (2, V a2), (3, V a3), (4, V a4), (5, V v10)]) (sbc 3 rfl (sbc 4 rfl (sbc 5 rfl (sbc 6 rfl (sbc 1 rfl (sbc 0 rfl sbn)))))) ?_
          replace h := ih _ h
          exact h ha4 (Vn_in e_v10)
        · replace h := ifN h hc12
          refine g_iload (pc := 118) (j := 0) (dK D_Mo_storyReasonOf_1 16 rfl) rfl ?_
          refine g_goto (pc := 120) (tgt := 125) (dK D_Mo_storyReasonOf_1 17 rfl) rfl ?_
          refine g_istore (pc := 125) (ls2 := [(4, V 3), (6, V 3), (0, .ref c0), (1, V a1), (2, V a2), (3, V a3), (5, V a5)]) (dK D_Mo_storyReasonOf_1 19 rfl) (ltK rfl) rfl ?_
          refine nmE h (fun v11 e_v11 h => ?_)
          refine vg_iinc (pc := 127) (j := 6) (a := a5) (z := 1) (ls2 := [(5, V v11), (4, V 3), (6, V 3), (0, .ref c0), (1, V a1), (2, V a2), (3, V a3)]) (dK D_Mo_storyReasonOf_1 20 rfl) rfl e_v11 (ltK rfl) rfl ?_
          refine g_goto (pc := 130) (tgt := 36) (dK D_Mo_storyReasonOf_1 21 rfl) rfl ?_
          refine gL_weak (ls' := [(0, .ref c0), (1, V a1), (2, V a2), (3, V a3), (4, V 3), (5, V v11)]) (sbc 3 rfl (sbc 4 rfl (sbc 5 rfl (sbc 6 rfl (sbc 1 rfl (sbc 0 rfl sbn)))))) ?_
          replace h := ih _ h
          exact h (inRk rfl) (Vn_in e_v11)
      · replace h := ifP h hc31
        refine g_aloadn (pc := 68) (i0 := 0) (j := 0) (dK D_Mo_storyReasonOf_0 40 rfl) rfl rfl ?_
        refine g_iload (pc := 69) (j := 5) (dK D_Mo_storyReasonOf_0 41 rfl) rfl ?_
        refine vg_iconst (pc := 71) (dK D_Mo_storyReasonOf_0 42 rfl) ?_
        refine vg_iconst (pc := 72) (dK D_Mo_storyReasonOf_0 43 rfl) ?_
        refine bnE h (fun p13 e_p13 h => ?_)
        refine vg_cV (pc := 73) (As := [V a5, V (-1), V (-1)]) (rest := []) (mc' := 0) (ms' := 0) (dK D_Mo_storyReasonOf_0 44 rfl) K_Mo_98 (fitK rfl) (ltK rfl) hc0 rfl (leK rfl) (leK rfl) (leK rfl) (tf_Mo_roomOn hc0 ha5 (inRk rfl) (inRk rfl) e_p13) (kcI (fun h_p13 => ?_))
        refine vg_iconst (pc := 76) (dK D_Mo_storyReasonOf_0 45 rfl) ?_
        refine vg_icmp_ge (pc := 77) (t := 84) (dK D_Mo_storyReasonOf_0 46 rfl) rfl h_p13 (inRk rfl) (fun hc30 => ?_) (fun hc30 => ?_)
        · replace h := ifP h hc30
          refine g_aloadn (pc := 84) (i0 := 0) (j := 0) (dK D_Mo_storyReasonOf_0 49 rfl) rfl rfl ?_
          refine g_iloadn (pc := 85) (i0 := 1) (j := 1) (dK D_Mo_storyReasonOf_1 0 rfl) rfl rfl ?_
          refine vg_iconst (pc := 86) (dK D_Mo_storyReasonOf_1 1 rfl) ?_
          refine bnE h (fun p14 e_p14 h => ?_)
          refine vg_cV (pc := 87) (As := [V a1, V 1]) (rest := []) (mc' := 0) (ms' := 0) (dK D_Mo_storyReasonOf_1 2 rfl) K_Mo_85 (fitK rfl) (ltK rfl) hc0 rfl (leK rfl) (leK rfl) (leK rfl) (tf_Mo_ofStory hc0 ha1 (inRk rfl) e_p14) (kcI (fun h_p14 => ?_))
          refine vg_iconst (pc := 90) (dK D_Mo_storyReasonOf_1 3 rfl) ?_
          refine vg_icmp_ne (pc := 91) (t := 107) (dK D_Mo_storyReasonOf_1 4 rfl) rfl h_p14 (inRk rfl) (fun hc26 => ?_) (fun hc26 => ?_)
          · replace h := ifN h hc26
            refine vg_ldc (pc := 107) (y := 1000000) (dK D_Mo_storyReasonOf_1 11 rfl) q_1616 rfl ?_
            refine g_istore (pc := 109) (ls2 := [(6, V 1000000), (0, .ref c0), (1, V a1), (2, V a2), (3, V a3), (4, V a4), (5, V a5)]) (dK D_Mo_storyReasonOf_1 12 rfl) (ltK rfl) rfl ?_
            refine g_iload (pc := 111) (j := 0) (dK D_Mo_storyReasonOf_1 13 rfl) rfl ?_
            refine g_iload (pc := 113) (j := 5) (dK D_Mo_storyReasonOf_1 14 rfl) rfl ?_
            refine vg_icmp_ge (pc := 115) (t := 123) (dK D_Mo_storyReasonOf_1 15 rfl) rfl (inRk rfl) ha4 (fun hc17 => ?_) (fun hc17 => ?_)
            · replace h := ifP h hc17
              refine g_iload (pc := 123) (j := 5) (dK D_Mo_storyReasonOf_1 18 rfl) rfl ?_
              refine g_istore (pc := 125) (ls2 := [(4, V a4), (6, V 1000000), (0, .ref c0), (1, V a1), (2, V a2), (3, V a3), (5, V a5)]) (dK D_Mo_storyReasonOf_1 19 rfl) (ltK rfl) rfl ?_
              refine nmE h (fun v15 e_v15 h => ?_)
              refine vg_iinc (pc := 127) (j := 6) (a := a5) (z := 1) (ls2 := [(5, V v15), (4, V a4), (6, V 1000000), (0, .ref c0), (1, V a1), (2, V a2), (3, V a3)]) (dK D_Mo_storyReasonOf_1 20 rfl) rfl e_v15 (ltK rfl) rfl ?_
              refine g_goto (pc := 130) (tgt := 36) (dK D_Mo_storyReasonOf_1 21 rfl) rfl ?_
              refine gL_weak (ls' := [(0, .ref c0), (1, V a1), (2, V a2), (3, V a3), (4, V a4), (5, V v15)]) (sbc 3 rfl (sbc 4 rfl (sbc 5 rfl (sbc 6 rfl (sbc 1 rfl (sbc 0 rfl sbn)))))) ?_
              replace h := ih _ h
              exact h ha4 (Vn_in e_v15)
            · replace h := ifN h hc17
              refine g_iload (pc := 118) (j := 0) (dK D_Mo_storyReasonOf_1 16 rfl) rfl ?_
              refine g_goto (pc := 120) (tgt := 125) (dK D_Mo_storyReasonOf_1 17 rfl) rfl ?_
              refine g_istore (pc := 125) (ls2 := [(4, V 1000000), (6, V 1000000), (0, .ref c0), (1, V a1), (2, V a2), (3, V a3), (5, V a5)]) (dK D_Mo_storyReasonOf_1 19 rfl) (ltK rfl) rfl ?_
              refine nmE h (fun v16 e_v16 h => ?_)
              refine vg_iinc (pc := 127) (j := 6) (a := a5) (z := 1) (ls2 := [(5, V v16), (4, V 1000000), (6, V 1000000), (0, .ref c0), (1, V a1), (2, V a2), (3, V a3)]) (dK D_Mo_storyReasonOf_1 20 rfl) rfl e_v16 (ltK rfl) rfl ?_
              refine g_goto (pc := 130) (tgt := 36) (dK D_Mo_storyReasonOf_1 21 rfl) rfl ?_
              refine gL_weak (ls' := [(0, .ref c0), (1, V a1), (2, V a2), (3, V a3), (4, V 1000000), (5, V v16)]) (sbc 3 rfl (sbc 4 rfl (sbc 5 rfl (sbc 6 rfl (sbc 1 rfl (sbc 0 rfl sbn)))))) ?_
              replace h := ih _ h
              exact h (inRk rfl) (Vn_in e_v16)
          · replace h := ifP h hc26
            refine g_aloadn (pc := 94) (i0 := 0) (j := 0) (dK D_Mo_storyReasonOf_1 5 rfl) rfl rfl ?_
            refine g_iload (pc := 95) (j := 5) (dK D_Mo_storyReasonOf_1 6 rfl) rfl ?_
            refine bnE h (fun p18 e_p18 h => ?_)
            refine vg_cV (pc := 97) (As := [V a5]) (rest := []) (mc' := 0) (ms' := 0) (dK D_Mo_storyReasonOf_1 7 rfl) K_Mo_112 (fitK rfl) (ltK rfl) hc0 rfl (leK rfl) (leK rfl) (leK rfl) (tf_Mo_hasColor hc0 ha5 e_p18) (kcB ?_)
            refine vg_ifB_ne (pc := 100) (b := p18) (t := 107) (dK D_Mo_storyReasonOf_1 8 rfl) rfl (fun hc19 => ?_) (fun hc19 => ?_)
            · replace h := ifP h hc19
              refine vg_ldc (pc := 107) (y := 1000000) (dK D_Mo_storyReasonOf_1 11 rfl) q_1616 rfl ?_
              refine g_istore (pc := 109) (ls2 := [(6, V 1000000), (0, .ref c0), (1, V a1), (2, V a2), (3, V a3), (4, V a4), (5, V a5)]) (dK D_Mo_storyReasonOf_1 12 rfl) (ltK rfl) rfl ?_
              refine g_iload (pc := 111) (j := 0) (dK D_Mo_storyReasonOf_1 13 rfl) rfl ?_
              refine g_iload (pc := 113) (j := 5) (dK D_Mo_storyReasonOf_1 14 rfl) rfl ?_
              refine vg_icmp_ge (pc := 115) (t := 123) (dK D_Mo_storyReasonOf_1 15 rfl) rfl (inRk rfl) ha4 (fun hc22 => ?_) (fun hc22 => ?_)
              · replace h := ifP h hc22
                refine g_iload (pc := 123) (j := 5) (dK D_Mo_storyReasonOf_1 18 rfl) rfl ?_
                refine g_istore (pc := 125) (ls2 := [(4, V a4), (6, V 1000000), (0, .ref c0), (1, V a1), (2, V a2), (3, V a3), (5, V a5)]) (dK D_Mo_storyReasonOf_1 19 rfl) (ltK rfl) rfl ?_
                refine nmE h (fun v20 e_v20 h => ?_)
                refine vg_iinc (pc := 127) (j := 6) (a := a5) (z := 1) (ls2 := [(5, V v20), (4, V a4), (6, V 1000000), (0, .ref c0), (1, V a1), (2, V a2), (3, V a3)]) (dK D_Mo_storyReasonOf_1 20 rfl) rfl e_v20 (ltK rfl) rfl ?_
                refine g_goto (pc := 130) (tgt := 36) (dK D_Mo_storyReasonOf_1 21 rfl) rfl ?_
                refine gL_weak (ls' := [(0, .ref c0), (1, V a1), (2, V a2), (3, V a3), (4, V a4), (5, V v20)]) (sbc 3 rfl (sbc 4 rfl (sbc 5 rfl (sbc 6 rfl (sbc 1 rfl (sbc 0 rfl sbn)))))) ?_
                replace h := ih _ h
                exact h ha4 (Vn_in e_v20)
              · replace h := ifN h hc22
                refine g_iload (pc := 118) (j := 0) (dK D_Mo_storyReasonOf_1 16 rfl) rfl ?_
                refine g_goto (pc := 120) (tgt := 125) (dK D_Mo_storyReasonOf_1 17 rfl) rfl ?_
                refine g_istore (pc := 125) (ls2 := [(4, V 1000000), (6, V 1000000), (0, .ref c0), (1, V a1), (2, V a2), (3, V a3), (5, V a5)]) (dK D_Mo_storyReasonOf_1 19 rfl) (ltK rfl) rfl ?_
                refine nmE h (fun v21 e_v21 h => ?_)
                refine vg_iinc (pc := 127) (j := 6) (a := a5) (z := 1) (ls2 := [(5, V v21), (4, V 1000000), (6, V 1000000), (0, .ref c0), (1, V a1), (2, V a2), (3, V a3)]) (dK D_Mo_storyReasonOf_1 20 rfl) rfl e_v21 (ltK rfl) rfl ?_
                refine g_goto (pc := 130) (tgt := 36) (dK D_Mo_storyReasonOf_1 21 rfl) rfl ?_
                refine gL_weak (ls' := [(0, .ref c0), (1, V a1), (2, V a2), (3, V a3), (4, V 1000000), (5, V v21)]) (sbc 3 rfl (sbc 4 rfl (sbc 5 rfl (sbc 6 rfl (sbc 1 rfl (sbc 0 rfl sbn)))))) ?_
                replace h := ih _ h
                exact h (inRk rfl) (Vn_in e_v21)
            · replace h := ifN h hc19
              refine vg_iconst (pc := 103) (dK D_Mo_storyReasonOf_1 9 rfl) ?_
              refine g_goto (pc := 104) (tgt := 109) (dK D_Mo_storyReasonOf_1 10 rfl) rfl ?_
              refine g_istore (pc := 109) (ls2 := [(6, V 4), (0, .ref c0), (1, V a1), (2, V a2), (3, V a3), (4, V a4), (5, V a5)]) (dK D_Mo_storyReasonOf_1 12 rfl) (ltK rfl) rfl ?_
              refine g_iload (pc := 111) (j := 0) (dK D_Mo_storyReasonOf_1 13 rfl) rfl ?_
              refine g_iload (pc := 113) (j := 5) (dK D_Mo_storyReasonOf_1 14 rfl) rfl ?_
              refine vg_icmp_ge (pc := 115) (t := 123) (dK D_Mo_storyReasonOf_1 15 rfl) rfl (inRk rfl) ha4 (fun hc25 => ?_) (fun hc25 => ?_)
              · replace h := ifP h hc25
                refine g_iload (pc := 123) (j := 5) (dK D_Mo_storyReasonOf_1 18 rfl) rfl ?_
                refine g_istore (pc := 125) (ls2 := [(4, V a4), (6, V 4), (0, .ref c0), (1, V a1), (2, V a2), (3, V a3), (5, V a5)]) (dK D_Mo_storyReasonOf_1 19 rfl) (ltK rfl) rfl ?_
                refine nmE h (fun v23 e_v23 h => ?_)
                refine vg_iinc (pc := 127) (j := 6) (a := a5) (z := 1) (ls2 := [(5, V v23), (4, V a4), (6, V 4), (0, .ref c0), (1, V a1), (2, V a2), (3, V a3)]) (dK D_Mo_storyReasonOf_1 20 rfl) rfl e_v23 (ltK rfl) rfl ?_
                refine g_goto (pc := 130) (tgt := 36) (dK D_Mo_storyReasonOf_1 21 rfl) rfl ?_
                refine gL_weak (ls' := [(0, .ref c0), (1, V a1), (2, V a2), (3, V a3), (4, V a4), (5, V v23)]) (sbc 3 rfl (sbc 4 rfl (sbc 5 rfl (sbc 6 rfl (sbc 1 rfl (sbc 0 rfl sbn)))))) ?_
                replace h := ih _ h
                exact h ha4 (Vn_in e_v23)
              · replace h := ifN h hc25
                refine g_iload (pc := 118) (j := 0) (dK D_Mo_storyReasonOf_1 16 rfl) rfl ?_
                refine g_goto (pc := 120) (tgt := 125) (dK D_Mo_storyReasonOf_1 17 rfl) rfl ?_
                refine g_istore (pc := 125) (ls2 := [(4, V 4), (6, V 4), (0, .ref c0), (1, V a1), (2, V a2), (3, V a3), (5, V a5)]) (dK D_Mo_storyReasonOf_1 19 rfl) (ltK rfl) rfl ?_
                refine nmE h (fun v24 e_v24 h => ?_)
                refine vg_iinc (pc := 127) (j := 6) (a := a5) (z := 1) (ls2 := [(5, V v24), (4, V 4), (6, V 4), (0, .ref c0), (1, V a1), (2, V a2), (3, V a3)]) (dK D_Mo_storyReasonOf_1 20 rfl) rfl e_v24 (ltK rfl) rfl ?_
                refine g_goto (pc := 130) (tgt := 36) (dK D_Mo_storyReasonOf_1 21 rfl) rfl ?_
                refine gL_weak (ls' := [(0, .ref c0), (1, V a1), (2, V a2), (3, V a3), (4, V 4), (5, V v24)]) (sbc 3 rfl (sbc 4 rfl (sbc 5 rfl (sbc 6 rfl (sbc 1 rfl (sbc 0 rfl sbn)))))) ?_
                replace h := ih _ h
                exact h (inRk rfl) (Vn_in e_v24)
        · replace h := ifN h hc30
          refine vg_iconst (pc := 80) (dK D_Mo_storyReasonOf_0 47 rfl) ?_
          refine g_goto (pc := 81) (tgt := 109) (dK D_Mo_storyReasonOf_0 48 rfl) rfl ?_
          refine g_istore (pc := 109) (ls2 := [(6, V 3), (0, .ref c0), (1, V a1), (2, V a2), (3, V a3), (4, V a4), (5, V a5)]) (dK D_Mo_storyReasonOf_1 12 rfl) (ltK rfl) rfl ?_
          refine g_iload (pc := 111) (j := 0) (dK D_Mo_storyReasonOf_1 13 rfl) rfl ?_
          refine g_iload (pc := 113) (j := 5) (dK D_Mo_storyReasonOf_1 14 rfl) rfl ?_
          refine vg_icmp_ge (pc := 115) (t := 123) (dK D_Mo_storyReasonOf_1 15 rfl) rfl (inRk rfl) ha4 (fun hc29 => ?_) (fun hc29 => ?_)
          · replace h := ifP h hc29
            refine g_iload (pc := 123) (j := 5) (dK D_Mo_storyReasonOf_1 18 rfl) rfl ?_
            refine g_istore (pc := 125) (ls2 := [(4, V a4), (6, V 3), (0, .ref c0), (1, V a1), (2, V a2), (3, V a3), (5, V a5)]) (dK D_Mo_storyReasonOf_1 19 rfl) (ltK rfl) rfl ?_
            refine nmE h (fun v27 e_v27 h => ?_)
            refine vg_iinc (pc := 127) (j := 6) (a := a5) (z := 1) (ls2 := [(5, V v27), (4, V a4), (6, V 3), (0, .ref c0), (1, V a1), (2, V a2), (3, V a3)]) (dK D_Mo_storyReasonOf_1 20 rfl) rfl e_v27 (ltK rfl) rfl ?_
            refine g_goto (pc := 130) (tgt := 36) (dK D_Mo_storyReasonOf_1 21 rfl) rfl ?_
            refine gL_weak (ls' := [(0, .ref c0), (1, V a1), (2, V a2), (3, V a3), (4, V a4), (5, V v27)]) (sbc 3 rfl (sbc 4 rfl (sbc 5 rfl (sbc 6 rfl (sbc 1 rfl (sbc 0 rfl sbn)))))) ?_
            replace h := ih _ h
            exact h ha4 (Vn_in e_v27)
          · replace h := ifN h hc29
            refine g_iload (pc := 118) (j := 0) (dK D_Mo_storyReasonOf_1 16 rfl) rfl ?_
            refine g_goto (pc := 120) (tgt := 125) (dK D_Mo_storyReasonOf_1 17 rfl) rfl ?_
            refine g_istore (pc := 125) (ls2 := [(4, V 3), (6, V 3), (0, .ref c0), (1, V a1), (2, V a2), (3, V a3), (5, V a5)]) (dK D_Mo_storyReasonOf_1 19 rfl) (ltK rfl) rfl ?_
            refine nmE h (fun v28 e_v28 h => ?_)
            refine vg_iinc (pc := 127) (j := 6) (a := a5) (z := 1) (ls2 := [(5, V v28), (4, V 3), (6, V 3), (0, .ref c0), (1, V a1), (2, V a2), (3, V a3)]) (dK D_Mo_storyReasonOf_1 20 rfl) rfl e_v28 (ltK rfl) rfl ?_
            refine g_goto (pc := 130) (tgt := 36) (dK D_Mo_storyReasonOf_1 21 rfl) rfl ?_
            refine gL_weak (ls' := [(0, .ref c0), (1, V a1), (2, V a2), (3, V a3), (4, V 3), (5, V v28)]) (sbc 3 rfl (sbc 4 rfl (sbc 5 rfl (sbc 6 rfl (sbc 1 rfl (sbc 0 rfl sbn)))))) ?_
            replace h := ih _ h
            exact h (inRk rfl) (Vn_in e_v28)
def fn_Mo_storyReasonOf (c0 : Nat) (a1 : Int) (a2 : Int) (S : St) : Option (Int) := bnO (fn_Mo_ofStory c0 a1 0 S) fun p1 => bnO (fn_Mo_isPage c0 a2 S) fun p2 => if p2 = true then (bnO (fn_Mo_pageMany c0 S) fun p4 => nm (wr ((a2 + p1) - 1)) fun v5 => if v5 ≤ p4 then (bnO (lo_Mo_storyReasonOf_36 c0 a1 a2 p1 S FU (1000000, a2)) fun p36 => if 1000000 ≤ p36 then (bnO (fn_Mo_ofStory c0 a1 2 S) fun p37 => bnO (fn_Mo_isOnSide a2 p37 S) fun p38 => if p38 = true then (some 0) else (some 5)) else (some p36)) else (some 1)) else (some 1)
theorem tf_Mo_storyReasonOf {E : EV} {X : XT} {c0 : Nat} (hc0 : HC X 11 c0) {a1 : Int} (ha1 : inR a1) {a2 : Int} (ha2 : inR a2) {S : St} {q : Int} (h : fn_Mo_storyReasonOf c0 a1 a2 S = some q) : Ev E M_Mo_storyReasonOf [.ref c0, V a1, V a2] (WX X S) 0 0 (KI X q S) := by
  refine Ev.of pn_Mo rfl (leK rfl) ?_
  show Go E M_Mo_storyReasonOf 0 0 0 [(0, .ref c0), (1, V a1), (2, V a2)] [] (WX X S) 0 0 (KI X q S)
  unfold fn_Mo_storyReasonOf at h
  refine g_aloadn (pc := 0) (i0 := 0) (j := 0) (dK D_Mo_storyReasonOf_0 0 rfl) rfl rfl ?_
  refine g_iloadn (pc := 1) (i0 := 1) (j := 1) (dK D_Mo_storyReasonOf_0 1 rfl) rfl rfl ?_
  refine vg_iconst (pc := 2) (dK D_Mo_storyReasonOf_0 2 rfl) ?_
  refine bnE h (fun p1 e_p1 h => ?_)
  refine vg_cV (pc := 3) (As := [V a1, V 0]) (rest := []) (mc' := 0) (ms' := 0) (dK D_Mo_storyReasonOf_0 3 rfl) K_Mo_85 (fitK rfl) (ltK rfl) hc0 rfl (leK rfl) (leK rfl) (leK rfl) (tf_Mo_ofStory hc0 ha1 (inRk rfl) e_p1) (kcI (fun h_p1 => ?_))
  refine g_istoren (pc := 6) (i0 := 3) (ls2 := [(3, V p1), (0, .ref c0), (1, V a1), (2, V a2)]) (dK D_Mo_storyReasonOf_0 4 rfl) rfl (ltK rfl) rfl ?_
  refine g_aloadn (pc := 7) (i0 := 0) (j := 1) (dK D_Mo_storyReasonOf_0 5 rfl) rfl rfl ?_
  refine g_iloadn (pc := 8) (i0 := 2) (j := 3) (dK D_Mo_storyReasonOf_0 6 rfl) rfl rfl ?_
  refine bnE h (fun p2 e_p2 h => ?_)
  refine vg_cV (pc := 9) (As := [V a2]) (rest := []) (mc' := 0) (ms' := 0) (dK D_Mo_storyReasonOf_0 7 rfl) K_Mo_105 (fitK rfl) (ltK rfl) hc0 rfl (leK rfl) (leK rfl) (leK rfl) (tf_Mo_isPage hc0 ha2 e_p2) (kcB ?_)
  refine vg_ifB_eq (pc := 12) (b := p2) (t := 27) (dK D_Mo_storyReasonOf_0 8 rfl) rfl (fun hc3 => ?_) (fun hc3 => ?_)
  · replace h := ifP h hc3
    refine g_iloadn (pc := 15) (i0 := 2) (j := 3) (dK D_Mo_storyReasonOf_0 9 rfl) rfl rfl ?_
    refine g_iloadn (pc := 16) (i0 := 3) (j := 0) (dK D_Mo_storyReasonOf_0 10 rfl) rfl rfl ?_
    refine vg_iadd (pc := 17) (dK D_Mo_storyReasonOf_0 11 rfl) ?_
    refine vg_iconst (pc := 18) (dK D_Mo_storyReasonOf_0 12 rfl) ?_
    refine vg_isub (pc := 19) (dK D_Mo_storyReasonOf_0 13 rfl) ?_
    refine g_aloadn (pc := 20) (i0 := 0) (j := 1) (dK D_Mo_storyReasonOf_0 14 rfl) rfl rfl ?_
    refine bnE h (fun p4 e_p4 h => ?_)
    refine vg_cV (pc := 21) (As := []) (rest := [V ((a2 + p1) - 1)]) (mc' := 0) (ms' := 0) (dK D_Mo_storyReasonOf_0 15 rfl) K_Mo_63 (fitK rfl) (ltK rfl) hc0 rfl (leK rfl) (leK rfl) (leK rfl) (tf_Mo_pageMany hc0 e_p4) (kcI (fun h_p4 => ?_))
    refine nmE h (fun v5 e_v5 h => ?_)
    refine gsk (st' := [V p4, V v5]) (by rw [Vn e_v5]) ?_
    refine vg_icmp_le (pc := 24) (t := 29) (dK D_Mo_storyReasonOf_0 16 rfl) rfl (Vn_in e_v5) h_p4 (fun hc41 => ?_) (fun hc41 => ?_)
    · replace h := ifP h hc41
      refine vg_ldc (pc := 29) (y := 1000000) (dK D_Mo_storyReasonOf_0 19 rfl) q_1616 rfl ?_
      refine g_istore (pc := 31) (ls2 := [(4, V 1000000), (3, V p1), (0, .ref c0), (1, V a1), (2, V a2)]) (dK D_Mo_storyReasonOf_0 20 rfl) (ltK rfl) rfl ?_
      refine g_iloadn (pc := 33) (i0 := 2) (j := 4) (dK D_Mo_storyReasonOf_0 21 rfl) rfl rfl ?_
      refine g_istore (pc := 34) (ls2 := [(5, V a2), (4, V 1000000), (3, V p1), (0, .ref c0), (1, V a1), (2, V a2)]) (dK D_Mo_storyReasonOf_0 22 rfl) (ltK rfl) rfl ?_
      refine bnE h (fun p36 e_p36 h => ?_)
      refine gL_weak (ls' := [(0, .ref c0), (1, V a1), (2, V a2), (3, V p1), (4, V 1000000), (5, V a2)]) (sbc 3 rfl (sbc 4 rfl (sbc 5 rfl (sbc 2 rfl (sbc 1 rfl (sbc 0 rfl sbn)))))) ?_
      refine tl_Mo_storyReasonOf_36 hc0 ha1 ha2 h_p1 (fun hx4_p36 => ?_) FU (1000000, a2) e_p36 (inRk rfl) ha2
      refine g_iload (pc := 133) (j := 3) (dK D_Mo_storyReasonOf_1 22 rfl) rfl ?_
      refine vg_ldc (pc := 135) (y := 1000000) (dK D_Mo_storyReasonOf_1 23 rfl) q_1616 rfl ?_
      refine vg_icmp_ge (pc := 137) (t := 145) (dK D_Mo_storyReasonOf_1 24 rfl) rfl hx4_p36 (inRk rfl) (fun hc40 => ?_) (fun hc40 => ?_)
      · replace h := ifP h hc40
        refine g_iloadn (pc := 145) (i0 := 2) (j := 2) (dK D_Mo_storyReasonOf_1 27 rfl) rfl rfl ?_
        refine g_aloadn (pc := 146) (i0 := 0) (j := 0) (dK D_Mo_storyReasonOf_1 28 rfl) rfl rfl ?_
        refine g_iloadn (pc := 147) (i0 := 1) (j := 1) (dK D_Mo_storyReasonOf_1 29 rfl) rfl rfl ?_
        refine vg_iconst (pc := 148) (dK D_Mo_storyReasonOf_1 30 rfl) ?_
        refine bnE h (fun p37 e_p37 h => ?_)
        refine vg_cV (pc := 149) (As := [V a1, V 2]) (rest := [V a2]) (mc' := 0) (ms' := 0) (dK D_Mo_storyReasonOf_1 31 rfl) K_Mo_85 (fitK rfl) (ltK rfl) hc0 rfl (leK rfl) (leK rfl) (leK rfl) (tf_Mo_ofStory hc0 ha1 (inRk rfl) e_p37) (kcI (fun h_p37 => ?_))
        refine bnE h (fun p38 e_p38 h => ?_)
        refine vg_cS (pc := 152) (As := [V a2, V p37]) (rest := []) (mc' := 0) (ms' := 0) (dK D_Mo_storyReasonOf_1 32 rfl) K_Mo_115 (fitK rfl) rfl (leK rfl) (leK rfl) (leK rfl) (tf_Mo_isOnSide ha2 h_p37 e_p38) (kcB ?_)
        refine vg_ifB_eq (pc := 155) (b := p38) (t := 162) (dK D_Mo_storyReasonOf_1 33 rfl) rfl (fun hc39 => ?_) (fun hc39 => ?_)
        · replace h := ifP h hc39
          refine vg_iconst (pc := 158) (dK D_Mo_storyReasonOf_1 34 rfl) ?_
          refine g_goto (pc := 159) (tgt := 163) (dK D_Mo_storyReasonOf_1 35 rfl) rfl ?_
          exact vg_iretI (pc := 163) (r := 0) (dK D_Mo_storyReasonOf_1 37 rfl) rfl (leK rfl) (leK rfl) (fun _ => rfl) (by obtain rfl := Option.some.inj h; exact ⟨rfl, (inRk rfl), rfl⟩)
        · replace h := ifN h hc39
          refine vg_iconst (pc := 162) (dK D_Mo_storyReasonOf_1 36 rfl) ?_
          exact vg_iretI (pc := 163) (r := 5) (dK D_Mo_storyReasonOf_1 37 rfl) rfl (leK rfl) (leK rfl) (fun _ => rfl) (by obtain rfl := Option.some.inj h; exact ⟨rfl, (inRk rfl), rfl⟩)
      · replace h := ifN h hc40
        refine g_iload (pc := 140) (j := 3) (dK D_Mo_storyReasonOf_1 25 rfl) rfl ?_
        refine g_goto (pc := 142) (tgt := 163) (dK D_Mo_storyReasonOf_1 26 rfl) rfl ?_
        exact vg_iretI (pc := 163) (r := p36) (dK D_Mo_storyReasonOf_1 37 rfl) rfl (leK rfl) (leK rfl) (fun _ => rfl) (by obtain rfl := Option.some.inj h; exact ⟨rfl, hx4_p36, rfl⟩)
    · replace h := ifN h hc41
      refine vg_iconst (pc := 27) (dK D_Mo_storyReasonOf_0 17 rfl) ?_
      exact vg_iretI (pc := 28) (r := 1) (dK D_Mo_storyReasonOf_0 18 rfl) rfl (leK rfl) (leK rfl) (fun _ => rfl) (by obtain rfl := Option.some.inj h; exact ⟨rfl, (inRk rfl), rfl⟩)
  · replace h := ifN h hc3
    refine vg_iconst (pc := 27) (dK D_Mo_storyReasonOf_0 17 rfl) ?_
    exact vg_iretI (pc := 28) (r := 1) (dK D_Mo_storyReasonOf_0 18 rfl) rfl (leK rfl) (leK rfl) (fun _ => rfl) (by obtain rfl := Option.some.inj h; exact ⟨rfl, (inRk rfl), rfl⟩)
def fn_Mo_storyReason (c0 : Nat) (a1 : Int) (a2 : Int) (S : St) : Option (Int × St) := nm (u S c0 4 0) fun S1 => bnO (fn_Mo_isStory c0 a1 S1) fun p2 => if p2 = true then (bnO (fn_Mo_throwsIf c0 0 1 S1) fun p4 => if p4.1 = true then (some (0, p4.2)) else (bnO (fn_Mo_storyReasonOf c0 a1 a2 p4.2) fun p6 => some (p6, p4.2))) else (bnO (fn_Mo_throwsIf c0 1 1 S1) fun p7 => if p7.1 = true then (some (0, p7.2)) else (bnO (fn_Mo_storyReasonOf c0 a1 a2 p7.2) fun p9 => some (p9, p7.2)))
theorem tf_Mo_storyReason {E : EV} {X : XT} {c0 : Nat} (hc0 : HC X 11 c0) {a1 : Int} (ha1 : inR a1) {a2 : Int} (ha2 : inR a2) {S : St} {q : Int × St} (h : fn_Mo_storyReason c0 a1 a2 S = some q) : Ev E M_Mo_storyReason [.ref c0, V a1, V a2] (WX X S) 0 0 (KI X q.1 q.2) := by
  refine Ev.of pn_Mo rfl (leK rfl) ?_
  show Go E M_Mo_storyReason 0 0 0 [(0, .ref c0), (1, V a1), (2, V a2)] [] (WX X S) 0 0 (KI X q.1 q.2)
  unfold fn_Mo_storyReason at h
  refine g_aloadn (pc := 0) (i0 := 0) (j := 0) (dK D_Mo_storyReason 0 rfl) rfl rfl ?_
  refine vg_iconst (pc := 1) (dK D_Mo_storyReason 1 rfl) ?_
  refine nmE h (fun S1 e_S1 h => ?_)
  refine vg_putI (pc := 2) (ci := 11) (f := 4) (z := 0) (dK D_Mo_storyReason 2 rfl) q_1446 hc0 (ltK rfl) (ltK rfl) rfl rfl e_S1 ?_
  refine g_aloadn (pc := 5) (i0 := 0) (j := 0) (dK D_Mo_storyReason 3 rfl) rfl rfl ?_
  refine g_aloadn (pc := 6) (i0 := 0) (j := 0) (dK D_Mo_storyReason 4 rfl) rfl rfl ?_
  refine g_iloadn (pc := 7) (i0 := 1) (j := 1) (dK D_Mo_storyReason 5 rfl) rfl rfl ?_
  refine bnE h (fun p2 e_p2 h => ?_)
  refine vg_cV (pc := 8) (As := [V a1]) (rest := [.ref c0]) (mc' := 0) (ms' := 0) (dK D_Mo_storyReason 6 rfl) K_Mo_132 (fitK rfl) (ltK rfl) hc0 rfl (leK rfl) (leK rfl) (leK rfl) (tf_Mo_isStory hc0 ha1 e_p2) (kcB ?_)
  refine vg_ifB_ne (pc := 11) (b := p2) (t := 18) (dK D_Mo_storyReason 7 rfl) rfl (fun hc3 => ?_) (fun hc3 => ?_)
  · replace h := ifP h hc3
    refine vg_iconst (pc := 18) (dK D_Mo_storyReason 10 rfl) ?_
    refine vg_iconst (pc := 19) (dK D_Mo_storyReason 11 rfl) ?_
    refine bnE h (fun p4 e_p4 h => ?_)
    refine vg_cV (pc := 20) (As := [V 0, V 1]) (rest := []) (mc' := 0) (ms' := 0) (dK D_Mo_storyReason 12 rfl) K_Mo_125 (fitK rfl) (ltK rfl) hc0 rfl (leK rfl) (leK rfl) (leK rfl) (tf_Mo_throwsIf hc0 (inRk rfl) (inRk rfl) e_p4) (kcB ?_)
    refine vg_ifB_eq (pc := 23) (b := p4.1) (t := 30) (dK D_Mo_storyReason 13 rfl) rfl (fun hc5 => ?_) (fun hc5 => ?_)
    · replace h := ifP h hc5
      refine vg_iconst (pc := 26) (dK D_Mo_storyReason 14 rfl) ?_
      refine g_goto (pc := 27) (tgt := 36) (dK D_Mo_storyReason 15 rfl) rfl ?_
      exact vg_iretI (pc := 36) (r := 0) (dK D_Mo_storyReason 20 rfl) rfl (leK rfl) (leK rfl) (fun _ => rfl) (by obtain rfl := Option.some.inj h; exact ⟨rfl, (inRk rfl), rfl⟩)
    · replace h := ifN h hc5
      refine g_aloadn (pc := 30) (i0 := 0) (j := 0) (dK D_Mo_storyReason 16 rfl) rfl rfl ?_
      refine g_iloadn (pc := 31) (i0 := 1) (j := 1) (dK D_Mo_storyReason 17 rfl) rfl rfl ?_
      refine g_iloadn (pc := 32) (i0 := 2) (j := 2) (dK D_Mo_storyReason 18 rfl) rfl rfl ?_
      refine bnE h (fun p6 e_p6 h => ?_)
      refine vg_cV (pc := 33) (As := [V a1, V a2]) (rest := []) (mc' := 0) (ms' := 0) (dK D_Mo_storyReason 19 rfl) K_Mo_135 (fitK rfl) (ltK rfl) hc0 rfl (leK rfl) (leK rfl) (leK rfl) (tf_Mo_storyReasonOf hc0 ha1 ha2 e_p6) (kcI (fun h_p6 => ?_))
      exact vg_iretI (pc := 36) (r := p6) (dK D_Mo_storyReason 20 rfl) rfl (leK rfl) (leK rfl) (fun _ => rfl) (by obtain rfl := Option.some.inj h; exact ⟨rfl, h_p6, rfl⟩)
  · replace h := ifN h hc3
    refine vg_iconst (pc := 14) (dK D_Mo_storyReason 8 rfl) ?_
    refine g_goto (pc := 15) (tgt := 19) (dK D_Mo_storyReason 9 rfl) rfl ?_
    refine vg_iconst (pc := 19) (dK D_Mo_storyReason 11 rfl) ?_
    refine bnE h (fun p7 e_p7 h => ?_)
    refine vg_cV (pc := 20) (As := [V 1, V 1]) (rest := []) (mc' := 0) (ms' := 0) (dK D_Mo_storyReason 12 rfl) K_Mo_125 (fitK rfl) (ltK rfl) hc0 rfl (leK rfl) (leK rfl) (leK rfl) (tf_Mo_throwsIf hc0 (inRk rfl) (inRk rfl) e_p7) (kcB ?_)
    refine vg_ifB_eq (pc := 23) (b := p7.1) (t := 30) (dK D_Mo_storyReason 13 rfl) rfl (fun hc8 => ?_) (fun hc8 => ?_)
    · replace h := ifP h hc8
      refine vg_iconst (pc := 26) (dK D_Mo_storyReason 14 rfl) ?_
      refine g_goto (pc := 27) (tgt := 36) (dK D_Mo_storyReason 15 rfl) rfl ?_
      exact vg_iretI (pc := 36) (r := 0) (dK D_Mo_storyReason 20 rfl) rfl (leK rfl) (leK rfl) (fun _ => rfl) (by obtain rfl := Option.some.inj h; exact ⟨rfl, (inRk rfl), rfl⟩)
    · replace h := ifN h hc8
      refine g_aloadn (pc := 30) (i0 := 0) (j := 0) (dK D_Mo_storyReason 16 rfl) rfl rfl ?_
      refine g_iloadn (pc := 31) (i0 := 1) (j := 1) (dK D_Mo_storyReason 17 rfl) rfl rfl ?_
      refine g_iloadn (pc := 32) (i0 := 2) (j := 2) (dK D_Mo_storyReason 18 rfl) rfl rfl ?_
      refine bnE h (fun p9 e_p9 h => ?_)
      refine vg_cV (pc := 33) (As := [V a1, V a2]) (rest := []) (mc' := 0) (ms' := 0) (dK D_Mo_storyReason 19 rfl) K_Mo_135 (fitK rfl) (ltK rfl) hc0 rfl (leK rfl) (leK rfl) (leK rfl) (tf_Mo_storyReasonOf hc0 ha1 ha2 e_p9) (kcI (fun h_p9 => ?_))
      exact vg_iretI (pc := 36) (r := p9) (dK D_Mo_storyReason 20 rfl) rfl (leK rfl) (leK rfl) (fun _ => rfl) (by obtain rfl := Option.some.inj h; exact ⟨rfl, h_p9, rfl⟩)
def fn_Mo_formMany (c0 : Nat) (S : St) : Option (Int) := some (wr (2 * (g S c0 1)))
theorem tf_Mo_formMany {E : EV} {X : XT} {c0 : Nat} (hc0 : HC X 11 c0) {S : St} {q : Int} (h : fn_Mo_formMany c0 S = some q) : Ev E M_Mo_formMany [.ref c0] (WX X S) 0 0 (KI X q S) := by
  refine Ev.of pn_Mo rfl (leK rfl) ?_
  show Go E M_Mo_formMany 0 0 0 [(0, .ref c0)] [] (WX X S) 0 0 (KI X q S)
  unfold fn_Mo_formMany at h
  refine vg_iconst (pc := 0) (dK D_Mo_formMany 0 rfl) ?_
  refine g_aloadn (pc := 1) (i0 := 0) (j := 0) (dK D_Mo_formMany 1 rfl) rfl rfl ?_
  refine vg_getI (pc := 2) (ci := 11) (f := 1) (dK D_Mo_formMany 2 rfl) q_1443 hc0 (ltK rfl) (ltK rfl) rfl ?_
  refine vg_imul (pc := 5) (dK D_Mo_formMany 3 rfl) ?_
  refine gtop (x := (wr (2 * (g S c0 1)))) rfl ?_
  exact vg_iretI (pc := 6) (r := (wr (2 * (g S c0 1)))) (dK D_Mo_formMany 4 rfl) rfl (leK rfl) (leK rfl) (fun _ => rfl) (by obtain rfl := Option.some.inj h; exact ⟨rfl, (wr_in _), rfl⟩)
def lb_Mo_placedAds_4 (c0 : Nat) (S : St) (go : Int × Int → Option (Int)) (a1 : Int) (a2 : Int) : Option (Int) := if (g S (tgt c0 0) 1) ≤ a2 then (some a1) else (bnO (fn_Mo_ofAd c0 a2 6 S) fun p1 => if p1 ≤ 0 then (nm (wr (a1 + 0)) fun v2 => nm (wr (a2 + 1)) fun v3 => go (v2, v3)) else (nm (wr (a1 + 1)) fun v4 => nm (wr (a2 + 1)) fun v5 => go (v4, v5)))
def lo_Mo_placedAds_4 (c0 : Nat) (S : St) : Nat → Int × Int → Option (Int) := lp fun go p => lb_Mo_placedAds_4 c0 S go p.1 p.2
theorem tl_Mo_placedAds_4 {E : EV} {X : XT} {c0 : Nat} (hc0 : HC X 11 c0) {S : St} {K : RK → PS → Prop} {q : Int} (hx : inR q → Go E M_Mo_placedAds 0 0 38 [(1, V q)] [] (WX X S) 0 0 K) : ∀ n a, lo_Mo_placedAds_4 c0 S n a = some q → inR a.1 → inR a.2 → Go E M_Mo_placedAds 0 0 4 [(0, .ref c0), (1, V a.1), (2, V a.2)] [] (WX X S) 0 0 K := by
  refine lp_ind (P := fun a : Int × Int => inR a.1 → inR a.2 → Go E M_Mo_placedAds 0 0 4 [(0, .ref c0), (1, V a.1), (2, V a.2)] [] (WX X S) 0 0 K) (fun go ih a h => ?_)
  obtain ⟨a1, a2⟩ := a
  intro ha1 ha2
  show Go E M_Mo_placedAds 0 0 4 [(0, .ref c0), (1, V a1), (2, V a2)] [] (WX X S) 0 0 K
  replace h : lb_Mo_placedAds_4 c0 S go a1 a2 = some q := h
  unfold lb_Mo_placedAds_4 at h
  refine g_iloadn (pc := 4) (i0 := 2) (j := 2) (dK D_Mo_placedAds 4 rfl) rfl rfl ?_
  refine g_aloadn (pc := 5) (i0 := 0) (j := 0) (dK D_Mo_placedAds 5 rfl) rfl rfl ?_
  refine vg_getA (pc := 6) (ci := 11) (f := 0) (dK D_Mo_placedAds 6 rfl) q_1442 hc0 (ltK rfl) (ltK rfl) rfl ?_
  refine vg_iconst (pc := 9) (dK D_Mo_placedAds 7 rfl) ?_
  refine vg_iaload (pc := 10) (j := 1) (dK D_Mo_placedAds 8 rfl) (hw_11_0 hc0) rfl ⟨by decide, by decide⟩ rfl ?_
  refine vg_icmp_ge (pc := 11) (t := 38) (dK D_Mo_placedAds 9 rfl) rfl ha2 (g_in _ _ _) (fun hc7 => ?_) (fun hc7 => ?_)
  · replace h := ifP h hc7
    obtain rfl := Option.some.inj h
    refine gL_weak (ls' := [(1, V a1)]) (sbc 1 rfl sbn) ?_
    exact hx ha1
  · replace h := ifN h hc7
    refine g_iloadn (pc := 14) (i0 := 1) (j := 1) (dK D_Mo_placedAds 10 rfl) rfl rfl ?_
    refine g_aloadn (pc := 15) (i0 := 0) (j := 0) (dK D_Mo_placedAds 11 rfl) rfl rfl ?_
    refine g_iloadn (pc := 16) (i0 := 2) (j := 2) (dK D_Mo_placedAds 12 rfl) rfl rfl ?_
    refine vg_bipush (pc := 17) (dK D_Mo_placedAds 13 rfl) rfl ?_
    refine bnE h (fun p1 e_p1 h => ?_)
    refine vg_cV (pc := 19) (As := [V a2, V 6]) (rest := [V a1]) (mc' := 0) (ms' := 0) (dK D_Mo_placedAds 14 rfl) K_Mo_82 (fitK rfl) (ltK rfl) hc0 rfl (leK rfl) (leK rfl) (leK rfl) (tf_Mo_ofAd hc0 ha2 (inRk rfl) e_p1) (kcI (fun h_p1 => ?_))
    refine vg_if_le (pc := 22) (t := 29) (dK D_Mo_placedAds 15 rfl) rfl h_p1 (fun hc6 => ?_) (fun hc6 => ?_)
    · replace h := ifP h hc6
      refine vg_iconst (pc := 29) (dK D_Mo_placedAds 18 rfl) ?_
      refine vg_iadd (pc := 30) (dK D_Mo_placedAds 19 rfl) ?_
      refine nmE h (fun v2 e_v2 h => ?_)
      refine gtop e_v2 ?_
      refine g_istoren (pc := 31) (i0 := 1) (ls2 := [(1, V v2), (0, .ref c0), (2, V a2)]) (dK D_Mo_placedAds 20 rfl) rfl (ltK rfl) rfl ?_
      refine nmE h (fun v3 e_v3 h => ?_)
      refine vg_iinc (pc := 32) (j := 2) (a := a2) (z := 1) (ls2 := [(2, V v3), (1, V v2), (0, .ref c0)]) (dK D_Mo_placedAds 21 rfl) rfl e_v3 (ltK rfl) rfl ?_
      refine g_goto (pc := 35) (tgt := 4) (dK D_Mo_placedAds 22 rfl) rfl ?_
      refine gL_weak (ls' := [(0, .ref c0), (1, V v2), (2, V v3)]) (sbc 2 rfl (sbc 1 rfl (sbc 0 rfl sbn))) ?_
      replace h := ih _ h
      exact h (Vn_in e_v2) (Vn_in e_v3)
    · replace h := ifN h hc6
      refine vg_iconst (pc := 25) (dK D_Mo_placedAds 16 rfl) ?_
      refine g_goto (pc := 26) (tgt := 30) (dK D_Mo_placedAds 17 rfl) rfl ?_
      refine vg_iadd (pc := 30) (dK D_Mo_placedAds 19 rfl) ?_
      refine nmE h (fun v4 e_v4 h => ?_)
      refine gtop e_v4 ?_
      refine g_istoren (pc := 31) (i0 := 1) (ls2 := [(1, V v4), (0, .ref c0), (2, V a2)]) (dK D_Mo_placedAds 20 rfl) rfl (ltK rfl) rfl ?_
      refine nmE h (fun v5 e_v5 h => ?_)
      refine vg_iinc (pc := 32) (j := 2) (a := a2) (z := 1) (ls2 := [(2, V v5), (1, V v4), (0, .ref c0)]) (dK D_Mo_placedAds 21 rfl) rfl e_v5 (ltK rfl) rfl ?_
      refine g_goto (pc := 35) (tgt := 4) (dK D_Mo_placedAds 22 rfl) rfl ?_
      refine gL_weak (ls' := [(0, .ref c0), (1, V v4), (2, V v5)]) (sbc 2 rfl (sbc 1 rfl (sbc 0 rfl sbn))) ?_
      replace h := ih _ h
      exact h (Vn_in e_v4) (Vn_in e_v5)
def fn_Mo_placedAds (c0 : Nat) (S : St) : Option (Int) := bnO (lo_Mo_placedAds_4 c0 S FU (0, 0)) fun p8 => some p8
theorem tf_Mo_placedAds {E : EV} {X : XT} {c0 : Nat} (hc0 : HC X 11 c0) {S : St} {q : Int} (h : fn_Mo_placedAds c0 S = some q) : Ev E M_Mo_placedAds [.ref c0] (WX X S) 0 0 (KI X q S) := by
  refine Ev.of pn_Mo rfl (leK rfl) ?_
  show Go E M_Mo_placedAds 0 0 0 [(0, .ref c0)] [] (WX X S) 0 0 (KI X q S)
  unfold fn_Mo_placedAds at h
  refine vg_iconst (pc := 0) (dK D_Mo_placedAds 0 rfl) ?_
  refine g_istoren (pc := 1) (i0 := 1) (ls2 := [(1, V 0), (0, .ref c0)]) (dK D_Mo_placedAds 1 rfl) rfl (ltK rfl) rfl ?_
  refine vg_iconst (pc := 2) (dK D_Mo_placedAds 2 rfl) ?_
  refine g_istoren (pc := 3) (i0 := 2) (ls2 := [(2, V 0), (1, V 0), (0, .ref c0)]) (dK D_Mo_placedAds 3 rfl) rfl (ltK rfl) rfl ?_
  refine bnE h (fun p8 e_p8 h => ?_)
  refine gL_weak (ls' := [(0, .ref c0), (1, V 0), (2, V 0)]) (sbc 2 rfl (sbc 1 rfl (sbc 0 rfl sbn))) ?_
  refine tl_Mo_placedAds_4 hc0 (fun hx1_p8 => ?_) FU (0, 0) e_p8 (inRk rfl) (inRk rfl)
  refine g_iloadn (pc := 38) (i0 := 1) (j := 0) (dK D_Mo_placedAds 23 rfl) rfl rfl ?_
  exact vg_iretI (pc := 39) (r := p8) (dK D_Mo_placedAds 24 rfl) rfl (leK rfl) (leK rfl) (fun _ => rfl) (by obtain rfl := Option.some.inj h; exact ⟨rfl, hx1_p8, rfl⟩)
def lb_Mo_placedStories_4 (c0 : Nat) (S : St) (go : Int × Int → Option (Int)) (a1 : Int) (a2 : Int) : Option (Int) := if (g S (tgt c0 0) 2) ≤ a2 then (some a1) else (bnO (fn_Mo_ofStory c0 a2 4 S) fun p1 => if p1 ≤ 0 then (nm (wr (a1 + 0)) fun v2 => nm (wr (a2 + 1)) fun v3 => go (v2, v3)) else (nm (wr (a1 + 1)) fun v4 => nm (wr (a2 + 1)) fun v5 => go (v4, v5)))
def lo_Mo_placedStories_4 (c0 : Nat) (S : St) : Nat → Int × Int → Option (Int) := lp fun go p => lb_Mo_placedStories_4 c0 S go p.1 p.2
theorem tl_Mo_placedStories_4 {E : EV} {X : XT} {c0 : Nat} (hc0 : HC X 11 c0) {S : St} {K : RK → PS → Prop} {q : Int} (hx : inR q → Go E M_Mo_placedStories 0 0 37 [(1, V q)] [] (WX X S) 0 0 K) : ∀ n a, lo_Mo_placedStories_4 c0 S n a = some q → inR a.1 → inR a.2 → Go E M_Mo_placedStories 0 0 4 [(0, .ref c0), (1, V a.1), (2, V a.2)] [] (WX X S) 0 0 K := by
  refine lp_ind (P := fun a : Int × Int => inR a.1 → inR a.2 → Go E M_Mo_placedStories 0 0 4 [(0, .ref c0), (1, V a.1), (2, V a.2)] [] (WX X S) 0 0 K) (fun go ih a h => ?_)
  obtain ⟨a1, a2⟩ := a
  intro ha1 ha2
  show Go E M_Mo_placedStories 0 0 4 [(0, .ref c0), (1, V a1), (2, V a2)] [] (WX X S) 0 0 K
  replace h : lb_Mo_placedStories_4 c0 S go a1 a2 = some q := h
  unfold lb_Mo_placedStories_4 at h
  refine g_iloadn (pc := 4) (i0 := 2) (j := 2) (dK D_Mo_placedStories 4 rfl) rfl rfl ?_
  refine g_aloadn (pc := 5) (i0 := 0) (j := 0) (dK D_Mo_placedStories 5 rfl) rfl rfl ?_
  refine vg_getA (pc := 6) (ci := 11) (f := 0) (dK D_Mo_placedStories 6 rfl) q_1442 hc0 (ltK rfl) (ltK rfl) rfl ?_
  refine vg_iconst (pc := 9) (dK D_Mo_placedStories 7 rfl) ?_
  refine vg_iaload (pc := 10) (j := 2) (dK D_Mo_placedStories 8 rfl) (hw_11_0 hc0) rfl ⟨by decide, by decide⟩ rfl ?_
  refine vg_icmp_ge (pc := 11) (t := 37) (dK D_Mo_placedStories 9 rfl) rfl ha2 (g_in _ _ _) (fun hc7 => ?_) (fun hc7 => ?_)
  · replace h := ifP h hc7
    obtain rfl := Option.some.inj h
    refine gL_weak (ls' := [(1, V a1)]) (sbc 1 rfl sbn) ?_
    exact hx ha1
  · replace h := ifN h hc7
    refine g_iloadn (pc := 14) (i0 := 1) (j := 1) (dK D_Mo_placedStories 10 rfl) rfl rfl ?_
    refine g_aloadn (pc := 15) (i0 := 0) (j := 0) (dK D_Mo_placedStories 11 rfl) rfl rfl ?_
    refine g_iloadn (pc := 16) (i0 := 2) (j := 2) (dK D_Mo_placedStories 12 rfl) rfl rfl ?_
    refine vg_iconst (pc := 17) (dK D_Mo_placedStories 13 rfl) ?_
    refine bnE h (fun p1 e_p1 h => ?_)
    refine vg_cV (pc := 18) (As := [V a2, V 4]) (rest := [V a1]) (mc' := 0) (ms' := 0) (dK D_Mo_placedStories 14 rfl) K_Mo_85 (fitK rfl) (ltK rfl) hc0 rfl (leK rfl) (leK rfl) (leK rfl) (tf_Mo_ofStory hc0 ha2 (inRk rfl) e_p1) (kcI (fun h_p1 => ?_))
    refine vg_if_le (pc := 21) (t := 28) (dK D_Mo_placedStories 15 rfl) rfl h_p1 (fun hc6 => ?_) (fun hc6 => ?_)
    · replace h := ifP h hc6
      refine vg_iconst (pc := 28) (dK D_Mo_placedStories 18 rfl) ?_
      refine vg_iadd (pc := 29) (dK D_Mo_placedStories 19 rfl) ?_
      refine nmE h (fun v2 e_v2 h => ?_)
      refine gtop e_v2 ?_
      refine g_istoren (pc := 30) (i0 := 1) (ls2 := [(1, V v2), (0, .ref c0), (2, V a2)]) (dK D_Mo_placedStories 20 rfl) rfl (ltK rfl) rfl ?_
      refine nmE h (fun v3 e_v3 h => ?_)
      refine vg_iinc (pc := 31) (j := 2) (a := a2) (z := 1) (ls2 := [(2, V v3), (1, V v2), (0, .ref c0)]) (dK D_Mo_placedStories 21 rfl) rfl e_v3 (ltK rfl) rfl ?_
      refine g_goto (pc := 34) (tgt := 4) (dK D_Mo_placedStories 22 rfl) rfl ?_
      refine gL_weak (ls' := [(0, .ref c0), (1, V v2), (2, V v3)]) (sbc 2 rfl (sbc 1 rfl (sbc 0 rfl sbn))) ?_
      replace h := ih _ h
      exact h (Vn_in e_v2) (Vn_in e_v3)
    · replace h := ifN h hc6
      refine vg_iconst (pc := 24) (dK D_Mo_placedStories 16 rfl) ?_
      refine g_goto (pc := 25) (tgt := 29) (dK D_Mo_placedStories 17 rfl) rfl ?_
      refine vg_iadd (pc := 29) (dK D_Mo_placedStories 19 rfl) ?_
      refine nmE h (fun v4 e_v4 h => ?_)
      refine gtop e_v4 ?_
      refine g_istoren (pc := 30) (i0 := 1) (ls2 := [(1, V v4), (0, .ref c0), (2, V a2)]) (dK D_Mo_placedStories 20 rfl) rfl (ltK rfl) rfl ?_
      refine nmE h (fun v5 e_v5 h => ?_)
      refine vg_iinc (pc := 31) (j := 2) (a := a2) (z := 1) (ls2 := [(2, V v5), (1, V v4), (0, .ref c0)]) (dK D_Mo_placedStories 21 rfl) rfl e_v5 (ltK rfl) rfl ?_
      refine g_goto (pc := 34) (tgt := 4) (dK D_Mo_placedStories 22 rfl) rfl ?_
      refine gL_weak (ls' := [(0, .ref c0), (1, V v4), (2, V v5)]) (sbc 2 rfl (sbc 1 rfl (sbc 0 rfl sbn))) ?_
      replace h := ih _ h
      exact h (Vn_in e_v4) (Vn_in e_v5)
def fn_Mo_placedStories (c0 : Nat) (S : St) : Option (Int) := bnO (lo_Mo_placedStories_4 c0 S FU (0, 0)) fun p8 => some p8
theorem tf_Mo_placedStories {E : EV} {X : XT} {c0 : Nat} (hc0 : HC X 11 c0) {S : St} {q : Int} (h : fn_Mo_placedStories c0 S = some q) : Ev E M_Mo_placedStories [.ref c0] (WX X S) 0 0 (KI X q S) := by
  refine Ev.of pn_Mo rfl (leK rfl) ?_
  show Go E M_Mo_placedStories 0 0 0 [(0, .ref c0)] [] (WX X S) 0 0 (KI X q S)
  unfold fn_Mo_placedStories at h
  refine vg_iconst (pc := 0) (dK D_Mo_placedStories 0 rfl) ?_
  refine g_istoren (pc := 1) (i0 := 1) (ls2 := [(1, V 0), (0, .ref c0)]) (dK D_Mo_placedStories 1 rfl) rfl (ltK rfl) rfl ?_
  refine vg_iconst (pc := 2) (dK D_Mo_placedStories 2 rfl) ?_
  refine g_istoren (pc := 3) (i0 := 2) (ls2 := [(2, V 0), (1, V 0), (0, .ref c0)]) (dK D_Mo_placedStories 3 rfl) rfl (ltK rfl) rfl ?_
  refine bnE h (fun p8 e_p8 h => ?_)
  refine gL_weak (ls' := [(0, .ref c0), (1, V 0), (2, V 0)]) (sbc 2 rfl (sbc 1 rfl (sbc 0 rfl sbn))) ?_
  refine tl_Mo_placedStories_4 hc0 (fun hx1_p8 => ?_) FU (0, 0) e_p8 (inRk rfl) (inRk rfl)
  refine g_iloadn (pc := 37) (i0 := 1) (j := 0) (dK D_Mo_placedStories 23 rfl) rfl rfl ?_
  exact vg_iretI (pc := 38) (r := p8) (dK D_Mo_placedStories 24 rfl) rfl (leK rfl) (leK rfl) (fun _ => rfl) (by obtain rfl := Option.some.inj h; exact ⟨rfl, hx1_p8, rfl⟩)
def lb_Mo_usedStandbys_4 (c0 : Nat) (S : St) (go : Int × Int → Option (Int)) (a1 : Int) (a2 : Int) : Option (Int) := if (g S (tgt c0 0) 3) ≤ a2 then (some a1) else (bnO (fn_Mo_ofStandby c0 a2 1 S) fun p1 => if p1 ≤ 0 then (nm (wr (a1 + 0)) fun v2 => nm (wr (a2 + 1)) fun v3 => go (v2, v3)) else (nm (wr (a1 + 1)) fun v4 => nm (wr (a2 + 1)) fun v5 => go (v4, v5)))
def lo_Mo_usedStandbys_4 (c0 : Nat) (S : St) : Nat → Int × Int → Option (Int) := lp fun go p => lb_Mo_usedStandbys_4 c0 S go p.1 p.2
theorem tl_Mo_usedStandbys_4 {E : EV} {X : XT} {c0 : Nat} (hc0 : HC X 11 c0) {S : St} {K : RK → PS → Prop} {q : Int} (hx : inR q → Go E M_Mo_usedStandbys 0 0 37 [(1, V q)] [] (WX X S) 0 0 K) : ∀ n a, lo_Mo_usedStandbys_4 c0 S n a = some q → inR a.1 → inR a.2 → Go E M_Mo_usedStandbys 0 0 4 [(0, .ref c0), (1, V a.1), (2, V a.2)] [] (WX X S) 0 0 K := by
  refine lp_ind (P := fun a : Int × Int => inR a.1 → inR a.2 → Go E M_Mo_usedStandbys 0 0 4 [(0, .ref c0), (1, V a.1), (2, V a.2)] [] (WX X S) 0 0 K) (fun go ih a h => ?_)
  obtain ⟨a1, a2⟩ := a
  intro ha1 ha2
  show Go E M_Mo_usedStandbys 0 0 4 [(0, .ref c0), (1, V a1), (2, V a2)] [] (WX X S) 0 0 K
  replace h : lb_Mo_usedStandbys_4 c0 S go a1 a2 = some q := h
  unfold lb_Mo_usedStandbys_4 at h
  refine g_iloadn (pc := 4) (i0 := 2) (j := 2) (dK D_Mo_usedStandbys 4 rfl) rfl rfl ?_
  refine g_aloadn (pc := 5) (i0 := 0) (j := 0) (dK D_Mo_usedStandbys 5 rfl) rfl rfl ?_
  refine vg_getA (pc := 6) (ci := 11) (f := 0) (dK D_Mo_usedStandbys 6 rfl) q_1442 hc0 (ltK rfl) (ltK rfl) rfl ?_
  refine vg_iconst (pc := 9) (dK D_Mo_usedStandbys 7 rfl) ?_
  refine vg_iaload (pc := 10) (j := 3) (dK D_Mo_usedStandbys 8 rfl) (hw_11_0 hc0) rfl ⟨by decide, by decide⟩ rfl ?_
  refine vg_icmp_ge (pc := 11) (t := 37) (dK D_Mo_usedStandbys 9 rfl) rfl ha2 (g_in _ _ _) (fun hc7 => ?_) (fun hc7 => ?_)
  · replace h := ifP h hc7
    obtain rfl := Option.some.inj h
    refine gL_weak (ls' := [(1, V a1)]) (sbc 1 rfl sbn) ?_
    exact hx ha1
  · replace h := ifN h hc7
    refine g_iloadn (pc := 14) (i0 := 1) (j := 1) (dK D_Mo_usedStandbys 10 rfl) rfl rfl ?_
    refine g_aloadn (pc := 15) (i0 := 0) (j := 0) (dK D_Mo_usedStandbys 11 rfl) rfl rfl ?_
    refine g_iloadn (pc := 16) (i0 := 2) (j := 2) (dK D_Mo_usedStandbys 12 rfl) rfl rfl ?_
    refine vg_iconst (pc := 17) (dK D_Mo_usedStandbys 13 rfl) ?_
    refine bnE h (fun p1 e_p1 h => ?_)
    refine vg_cV (pc := 18) (As := [V a2, V 1]) (rest := [V a1]) (mc' := 0) (ms' := 0) (dK D_Mo_usedStandbys 14 rfl) K_Mo_92 (fitK rfl) (ltK rfl) hc0 rfl (leK rfl) (leK rfl) (leK rfl) (tf_Mo_ofStandby hc0 ha2 (inRk rfl) e_p1) (kcI (fun h_p1 => ?_))
    refine vg_if_le (pc := 21) (t := 28) (dK D_Mo_usedStandbys 15 rfl) rfl h_p1 (fun hc6 => ?_) (fun hc6 => ?_)
    · replace h := ifP h hc6
      refine vg_iconst (pc := 28) (dK D_Mo_usedStandbys 18 rfl) ?_
      refine vg_iadd (pc := 29) (dK D_Mo_usedStandbys 19 rfl) ?_
      refine nmE h (fun v2 e_v2 h => ?_)
      refine gtop e_v2 ?_
      refine g_istoren (pc := 30) (i0 := 1) (ls2 := [(1, V v2), (0, .ref c0), (2, V a2)]) (dK D_Mo_usedStandbys 20 rfl) rfl (ltK rfl) rfl ?_
      refine nmE h (fun v3 e_v3 h => ?_)
      refine vg_iinc (pc := 31) (j := 2) (a := a2) (z := 1) (ls2 := [(2, V v3), (1, V v2), (0, .ref c0)]) (dK D_Mo_usedStandbys 21 rfl) rfl e_v3 (ltK rfl) rfl ?_
      refine g_goto (pc := 34) (tgt := 4) (dK D_Mo_usedStandbys 22 rfl) rfl ?_
      refine gL_weak (ls' := [(0, .ref c0), (1, V v2), (2, V v3)]) (sbc 2 rfl (sbc 1 rfl (sbc 0 rfl sbn))) ?_
      replace h := ih _ h
      exact h (Vn_in e_v2) (Vn_in e_v3)
    · replace h := ifN h hc6
      refine vg_iconst (pc := 24) (dK D_Mo_usedStandbys 16 rfl) ?_
      refine g_goto (pc := 25) (tgt := 29) (dK D_Mo_usedStandbys 17 rfl) rfl ?_
      refine vg_iadd (pc := 29) (dK D_Mo_usedStandbys 19 rfl) ?_
      refine nmE h (fun v4 e_v4 h => ?_)
      refine gtop e_v4 ?_
      refine g_istoren (pc := 30) (i0 := 1) (ls2 := [(1, V v4), (0, .ref c0), (2, V a2)]) (dK D_Mo_usedStandbys 20 rfl) rfl (ltK rfl) rfl ?_
      refine nmE h (fun v5 e_v5 h => ?_)
      refine vg_iinc (pc := 31) (j := 2) (a := a2) (z := 1) (ls2 := [(2, V v5), (1, V v4), (0, .ref c0)]) (dK D_Mo_usedStandbys 21 rfl) rfl e_v5 (ltK rfl) rfl ?_
      refine g_goto (pc := 34) (tgt := 4) (dK D_Mo_usedStandbys 22 rfl) rfl ?_
      refine gL_weak (ls' := [(0, .ref c0), (1, V v4), (2, V v5)]) (sbc 2 rfl (sbc 1 rfl (sbc 0 rfl sbn))) ?_
      replace h := ih _ h
      exact h (Vn_in e_v4) (Vn_in e_v5)
def fn_Mo_usedStandbys (c0 : Nat) (S : St) : Option (Int) := bnO (lo_Mo_usedStandbys_4 c0 S FU (0, 0)) fun p8 => some p8
theorem tf_Mo_usedStandbys {E : EV} {X : XT} {c0 : Nat} (hc0 : HC X 11 c0) {S : St} {q : Int} (h : fn_Mo_usedStandbys c0 S = some q) : Ev E M_Mo_usedStandbys [.ref c0] (WX X S) 0 0 (KI X q S) := by
  refine Ev.of pn_Mo rfl (leK rfl) ?_
  show Go E M_Mo_usedStandbys 0 0 0 [(0, .ref c0)] [] (WX X S) 0 0 (KI X q S)
  unfold fn_Mo_usedStandbys at h
  refine vg_iconst (pc := 0) (dK D_Mo_usedStandbys 0 rfl) ?_
  refine g_istoren (pc := 1) (i0 := 1) (ls2 := [(1, V 0), (0, .ref c0)]) (dK D_Mo_usedStandbys 1 rfl) rfl (ltK rfl) rfl ?_
  refine vg_iconst (pc := 2) (dK D_Mo_usedStandbys 2 rfl) ?_
  refine g_istoren (pc := 3) (i0 := 2) (ls2 := [(2, V 0), (1, V 0), (0, .ref c0)]) (dK D_Mo_usedStandbys 3 rfl) rfl (ltK rfl) rfl ?_
  refine bnE h (fun p8 e_p8 h => ?_)
  refine gL_weak (ls' := [(0, .ref c0), (1, V 0), (2, V 0)]) (sbc 2 rfl (sbc 1 rfl (sbc 0 rfl sbn))) ?_
  refine tl_Mo_usedStandbys_4 hc0 (fun hx1_p8 => ?_) FU (0, 0) e_p8 (inRk rfl) (inRk rfl)
  refine g_iloadn (pc := 37) (i0 := 1) (j := 0) (dK D_Mo_usedStandbys 23 rfl) rfl rfl ?_
  exact vg_iretI (pc := 38) (r := p8) (dK D_Mo_usedStandbys 24 rfl) rfl (leK rfl) (leK rfl) (fun _ => rfl) (by obtain rfl := Option.some.inj h; exact ⟨rfl, hx1_p8, rfl⟩)
def lb_Mo_formsWith_4 (c0 : Nat) (a1 : Int) (S : St) (go : Int × Int → Option (Int)) (a2 : Int) (a3 : Int) : Option (Int) := bnO (fn_Mo_formMany c0 S) fun p1 => if p1 ≤ a3 then (some a2) else (bnO (fn_Mo_ofForm c0 a3 a1 S) fun p2 => nm (wr (a2 + p2)) fun v3 => nm (wr (a3 + 1)) fun v4 => go (v3, v4))
def lo_Mo_formsWith_4 (c0 : Nat) (a1 : Int) (S : St) : Nat → Int × Int → Option (Int) := lp fun go p => lb_Mo_formsWith_4 c0 a1 S go p.1 p.2
theorem tl_Mo_formsWith_4 {E : EV} {X : XT} {c0 : Nat} (hc0 : HC X 11 c0) {a1 : Int} (ha1 : inR a1) {S : St} {K : RK → PS → Prop} {q : Int} (hx : inR q → Go E M_Mo_formsWith 0 0 27 [(2, V q)] [] (WX X S) 0 0 K) : ∀ n a, lo_Mo_formsWith_4 c0 a1 S n a = some q → inR a.1 → inR a.2 → Go E M_Mo_formsWith 0 0 4 [(0, .ref c0), (1, V a1), (2, V a.1), (3, V a.2)] [] (WX X S) 0 0 K := by
  refine lp_ind (P := fun a : Int × Int => inR a.1 → inR a.2 → Go E M_Mo_formsWith 0 0 4 [(0, .ref c0), (1, V a1), (2, V a.1), (3, V a.2)] [] (WX X S) 0 0 K) (fun go ih a h => ?_)
  obtain ⟨a2, a3⟩ := a
  intro ha2 ha3
  show Go E M_Mo_formsWith 0 0 4 [(0, .ref c0), (1, V a1), (2, V a2), (3, V a3)] [] (WX X S) 0 0 K
  replace h : lb_Mo_formsWith_4 c0 a1 S go a2 a3 = some q := h
  unfold lb_Mo_formsWith_4 at h
  refine g_iloadn (pc := 4) (i0 := 3) (j := 3) (dK D_Mo_formsWith 4 rfl) rfl rfl ?_
  refine g_aloadn (pc := 5) (i0 := 0) (j := 0) (dK D_Mo_formsWith 5 rfl) rfl rfl ?_
  refine bnE h (fun p1 e_p1 h => ?_)
  refine vg_cV (pc := 6) (As := []) (rest := [V a3]) (mc' := 0) (ms' := 0) (dK D_Mo_formsWith 6 rfl) K_Mo_71 (fitK rfl) (ltK rfl) hc0 rfl (leK rfl) (leK rfl) (leK rfl) (tf_Mo_formMany hc0 e_p1) (kcI (fun h_p1 => ?_))
  refine vg_icmp_ge (pc := 9) (t := 27) (dK D_Mo_formsWith 7 rfl) rfl ha3 h_p1 (fun hc5 => ?_) (fun hc5 => ?_)
  · replace h := ifP h hc5
    obtain rfl := Option.some.inj h
    refine gL_weak (ls' := [(2, V a2)]) (sbc 2 rfl sbn) ?_
    exact hx ha2
  · replace h := ifN h hc5
    refine g_iloadn (pc := 12) (i0 := 2) (j := 2) (dK D_Mo_formsWith 8 rfl) rfl rfl ?_
    refine g_aloadn (pc := 13) (i0 := 0) (j := 0) (dK D_Mo_formsWith 9 rfl) rfl rfl ?_
    refine g_iloadn (pc := 14) (i0 := 3) (j := 3) (dK D_Mo_formsWith 10 rfl) rfl rfl ?_
    refine g_iloadn (pc := 15) (i0 := 1) (j := 1) (dK D_Mo_formsWith 11 rfl) rfl rfl ?_
    refine bnE h (fun p2 e_p2 h => ?_)
    refine vg_cV (pc := 16) (As := [V a3, V a1]) (rest := [V a2]) (mc' := 0) (ms' := 0) (dK D_Mo_formsWith 12 rfl) K_Mo_78 (fitK rfl) (ltK rfl) hc0 rfl (leK rfl) (leK rfl) (leK rfl) (tf_Mo_ofForm hc0 ha3 ha1 e_p2) (kcI (fun h_p2 => ?_))
    refine vg_iadd (pc := 19) (dK D_Mo_formsWith 13 rfl) ?_
    refine nmE h (fun v3 e_v3 h => ?_)
    refine gtop e_v3 ?_
    refine g_istoren (pc := 20) (i0 := 2) (ls2 := [(2, V v3), (0, .ref c0), (1, V a1), (3, V a3)]) (dK D_Mo_formsWith 14 rfl) rfl (ltK rfl) rfl ?_
    refine nmE h (fun v4 e_v4 h => ?_)
    refine vg_iinc (pc := 21) (j := 3) (a := a3) (z := 1) (ls2 := [(3, V v4), (2, V v3), (0, .ref c0), (1, V a1)]) (dK D_Mo_formsWith 15 rfl) rfl e_v4 (ltK rfl) rfl ?_
    refine g_goto (pc := 24) (tgt := 4) (dK D_Mo_formsWith 16 rfl) rfl ?_
    refine gL_weak (ls' := [(0, .ref c0), (1, V a1), (2, V v3), (3, V v4)]) (sbc 2 rfl (sbc 3 rfl (sbc 1 rfl (sbc 0 rfl sbn)))) ?_
    replace h := ih _ h
    exact h (Vn_in e_v3) (Vn_in e_v4)
def fn_Mo_formsWith (c0 : Nat) (a1 : Int) (S : St) : Option (Int) := bnO (lo_Mo_formsWith_4 c0 a1 S FU (0, 0)) fun p6 => some p6
theorem tf_Mo_formsWith {E : EV} {X : XT} {c0 : Nat} (hc0 : HC X 11 c0) {a1 : Int} (ha1 : inR a1) {S : St} {q : Int} (h : fn_Mo_formsWith c0 a1 S = some q) : Ev E M_Mo_formsWith [.ref c0, V a1] (WX X S) 0 0 (KI X q S) := by
  refine Ev.of pn_Mo rfl (leK rfl) ?_
  show Go E M_Mo_formsWith 0 0 0 [(0, .ref c0), (1, V a1)] [] (WX X S) 0 0 (KI X q S)
  unfold fn_Mo_formsWith at h
  refine vg_iconst (pc := 0) (dK D_Mo_formsWith 0 rfl) ?_
  refine g_istoren (pc := 1) (i0 := 2) (ls2 := [(2, V 0), (0, .ref c0), (1, V a1)]) (dK D_Mo_formsWith 1 rfl) rfl (ltK rfl) rfl ?_
  refine vg_iconst (pc := 2) (dK D_Mo_formsWith 2 rfl) ?_
  refine g_istoren (pc := 3) (i0 := 3) (ls2 := [(3, V 0), (2, V 0), (0, .ref c0), (1, V a1)]) (dK D_Mo_formsWith 3 rfl) rfl (ltK rfl) rfl ?_
  refine bnE h (fun p6 e_p6 h => ?_)
  refine gL_weak (ls' := [(0, .ref c0), (1, V a1), (2, V 0), (3, V 0)]) (sbc 2 rfl (sbc 3 rfl (sbc 1 rfl (sbc 0 rfl sbn)))) ?_
  refine tl_Mo_formsWith_4 hc0 ha1 (fun hx2_p6 => ?_) FU (0, 0) e_p6 (inRk rfl) (inRk rfl)
  refine g_iloadn (pc := 27) (i0 := 2) (j := 0) (dK D_Mo_formsWith 17 rfl) rfl rfl ?_
  exact vg_iretI (pc := 28) (r := p6) (dK D_Mo_formsWith 18 rfl) rfl (leK rfl) (leK rfl) (fun _ => rfl) (by obtain rfl := Option.some.inj h; exact ⟨rfl, hx2_p6, rfl⟩)
def fn_Mo_count (c0 : Nat) (a1 : Int) (S : St) : Option (Int × St) := nm (u S c0 4 0) fun S1 => if a1 = 0 then (bnO (fn_Mo_pageMany c0 S1) fun p3 => some (p3, S1)) else if a1 = 1 then (some ((g S1 c0 1), S1)) else if a1 = 2 then (bnO (fn_Mo_formMany c0 S1) fun p6 => some (p6, S1)) else if a1 = 3 then (some ((g S1 (tgt c0 0) 1), S1)) else if a1 = 4 then (some ((g S1 (tgt c0 0) 2), S1)) else if a1 = 5 then (some ((g S1 (tgt c0 0) 3), S1)) else if a1 = 6 then (some ((g S1 (tgt c0 0) 0), S1)) else if a1 = 7 then (bnO (fn_Mo_placedAds c0 S1) fun p12 => some (p12, S1)) else if a1 = 8 then (bnO (fn_Mo_placedStories c0 S1) fun p14 => some (p14, S1)) else if a1 = 9 then (bnO (fn_Mo_usedStandbys c0 S1) fun p16 => some (p16, S1)) else if a1 = 10 then (bnO (fn_Mo_formsWith c0 1 S1) fun p18 => some (p18, S1)) else if a1 = 11 then (bnO (fn_Mo_formsWith c0 0 S1) fun p20 => some (p20, S1)) else (some ((-1), S1))
theorem tf_Mo_count {E : EV} {X : XT} {c0 : Nat} (hc0 : HC X 11 c0) {a1 : Int} (ha1 : inR a1) {S : St} {q : Int × St} (h : fn_Mo_count c0 a1 S = some q) : Ev E M_Mo_count [.ref c0, V a1] (WX X S) 0 0 (KI X q.1 q.2) := by
  refine Ev.of pn_Mo rfl (leK rfl) ?_
  show Go E M_Mo_count 0 0 0 [(0, .ref c0), (1, V a1)] [] (WX X S) 0 0 (KI X q.1 q.2)
  unfold fn_Mo_count at h
  refine g_aloadn (pc := 0) (i0 := 0) (j := 0) (dK D_Mo_count_0 0 rfl) rfl rfl ?_
  refine vg_iconst (pc := 1) (dK D_Mo_count_0 1 rfl) ?_
  refine nmE h (fun S1 e_S1 h => ?_)
  refine vg_putI (pc := 2) (ci := 11) (f := 4) (z := 0) (dK D_Mo_count_0 2 rfl) q_1446 hc0 (ltK rfl) (ltK rfl) rfl rfl e_S1 ?_
  refine g_iloadn (pc := 5) (i0 := 1) (j := 1) (dK D_Mo_count_0 3 rfl) rfl rfl ?_
  by_cases hk2 : a1 = 0
  · have h := ifP h hk2
    refine vg_tabK (pc := 6) (kk := 0) (t := 68) (dK D_Mo_count_0 4 rfl) hk2 rfl rfl rfl rfl ?_
    refine g_aloadn (pc := 68) (i0 := 0) (j := 0) (dK D_Mo_count_0 5 rfl) rfl rfl ?_
    refine bnE h (fun p3 e_p3 h => ?_)
    refine vg_cV (pc := 69) (As := []) (rest := []) (mc' := 0) (ms' := 0) (dK D_Mo_count_0 6 rfl) K_Mo_63 (fitK rfl) (ltK rfl) hc0 rfl (leK rfl) (leK rfl) (leK rfl) (tf_Mo_pageMany hc0 e_p3) (kcI (fun h_p3 => ?_))
    exact vg_iretI (pc := 72) (r := p3) (dK D_Mo_count_0 7 rfl) rfl (leK rfl) (leK rfl) (fun _ => rfl) (by obtain rfl := Option.some.inj h; exact ⟨rfl, h_p3, rfl⟩)
  replace h := ifN h hk2
  by_cases hk4 : a1 = 1
  · have h := ifP h hk4
    refine vg_tabK (pc := 6) (kk := 1) (t := 73) (dK D_Mo_count_0 4 rfl) hk4 rfl rfl rfl rfl ?_
    refine g_aloadn (pc := 73) (i0 := 0) (j := 0) (dK D_Mo_count_0 8 rfl) rfl rfl ?_
    refine vg_getI (pc := 74) (ci := 11) (f := 1) (dK D_Mo_count_0 9 rfl) q_1443 hc0 (ltK rfl) (ltK rfl) rfl ?_
    exact vg_iretI (pc := 77) (r := (g S1 c0 1)) (dK D_Mo_count_0 10 rfl) rfl (leK rfl) (leK rfl) (fun _ => rfl) (by obtain rfl := Option.some.inj h; exact ⟨rfl, (g_in _ _ _), rfl⟩)
  replace h := ifN h hk4
  by_cases hk5 : a1 = 2
  · have h := ifP h hk5
    refine vg_tabK (pc := 6) (kk := 2) (t := 78) (dK D_Mo_count_0 4 rfl) hk5 rfl rfl rfl rfl ?_
    refine g_aloadn (pc := 78) (i0 := 0) (j := 0) (dK D_Mo_count_0 11 rfl) rfl rfl ?_
    refine bnE h (fun p6 e_p6 h => ?_)
    refine vg_cV (pc := 79) (As := []) (rest := []) (mc' := 0) (ms' := 0) (dK D_Mo_count_0 12 rfl) K_Mo_71 (fitK rfl) (ltK rfl) hc0 rfl (leK rfl) (leK rfl) (leK rfl) (tf_Mo_formMany hc0 e_p6) (kcI (fun h_p6 => ?_))
    exact vg_iretI (pc := 82) (r := p6) (dK D_Mo_count_0 13 rfl) rfl (leK rfl) (leK rfl) (fun _ => rfl) (by obtain rfl := Option.some.inj h; exact ⟨rfl, h_p6, rfl⟩)
  replace h := ifN h hk5
  by_cases hk7 : a1 = 3
  · have h := ifP h hk7
    refine vg_tabK (pc := 6) (kk := 3) (t := 83) (dK D_Mo_count_0 4 rfl) hk7 rfl rfl rfl rfl ?_
    refine g_aloadn (pc := 83) (i0 := 0) (j := 0) (dK D_Mo_count_0 14 rfl) rfl rfl ?_
    refine vg_getA (pc := 84) (ci := 11) (f := 0) (dK D_Mo_count_0 15 rfl) q_1442 hc0 (ltK rfl) (ltK rfl) rfl ?_
    refine vg_iconst (pc := 87) (dK D_Mo_count_0 16 rfl) ?_
    refine vg_iaload (pc := 88) (j := 1) (dK D_Mo_count_0 17 rfl) (hw_11_0 hc0) rfl ⟨by decide, by decide⟩ rfl ?_
    exact vg_iretI (pc := 89) (r := (g S1 (tgt c0 0) 1)) (dK D_Mo_count_0 18 rfl) rfl (leK rfl) (leK rfl) (fun _ => rfl) (by obtain rfl := Option.some.inj h; exact ⟨rfl, (g_in _ _ _), rfl⟩)
  replace h := ifN h hk7
  by_cases hk8 : a1 = 4
  · have h := ifP h hk8
    refine vg_tabK (pc := 6) (kk := 4) (t := 90) (dK D_Mo_count_0 4 rfl) hk8 rfl rfl rfl rfl ?_
    refine g_aloadn (pc := 90) (i0 := 0) (j := 0) (dK D_Mo_count_0 19 rfl) rfl rfl ?_
    refine vg_getA (pc := 91) (ci := 11) (f := 0) (dK D_Mo_count_0 20 rfl) q_1442 hc0 (ltK rfl) (ltK rfl) rfl ?_
    refine vg_iconst (pc := 94) (dK D_Mo_count_0 21 rfl) ?_
    refine vg_iaload (pc := 95) (j := 2) (dK D_Mo_count_0 22 rfl) (hw_11_0 hc0) rfl ⟨by decide, by decide⟩ rfl ?_
    exact vg_iretI (pc := 96) (r := (g S1 (tgt c0 0) 2)) (dK D_Mo_count_0 23 rfl) rfl (leK rfl) (leK rfl) (fun _ => rfl) (by obtain rfl := Option.some.inj h; exact ⟨rfl, (g_in _ _ _), rfl⟩)
  replace h := ifN h hk8
  by_cases hk9 : a1 = 5
  · have h := ifP h hk9
    refine vg_tabK (pc := 6) (kk := 5) (t := 97) (dK D_Mo_count_0 4 rfl) hk9 rfl rfl rfl rfl ?_
    refine g_aloadn (pc := 97) (i0 := 0) (j := 0) (dK D_Mo_count_0 24 rfl) rfl rfl ?_
    refine vg_getA (pc := 98) (ci := 11) (f := 0) (dK D_Mo_count_0 25 rfl) q_1442 hc0 (ltK rfl) (ltK rfl) rfl ?_
    refine vg_iconst (pc := 101) (dK D_Mo_count_0 26 rfl) ?_
    refine vg_iaload (pc := 102) (j := 3) (dK D_Mo_count_0 27 rfl) (hw_11_0 hc0) rfl ⟨by decide, by decide⟩ rfl ?_
    exact vg_iretI (pc := 103) (r := (g S1 (tgt c0 0) 3)) (dK D_Mo_count_0 28 rfl) rfl (leK rfl) (leK rfl) (fun _ => rfl) (by obtain rfl := Option.some.inj h; exact ⟨rfl, (g_in _ _ _), rfl⟩)
  replace h := ifN h hk9
  by_cases hk10 : a1 = 6
  · have h := ifP h hk10
    refine vg_tabK (pc := 6) (kk := 6) (t := 104) (dK D_Mo_count_0 4 rfl) hk10 rfl rfl rfl rfl ?_
    refine g_aloadn (pc := 104) (i0 := 0) (j := 0) (dK D_Mo_count_0 29 rfl) rfl rfl ?_
    refine vg_getA (pc := 105) (ci := 11) (f := 0) (dK D_Mo_count_0 30 rfl) q_1442 hc0 (ltK rfl) (ltK rfl) rfl ?_
    refine vg_iconst (pc := 108) (dK D_Mo_count_0 31 rfl) ?_
    refine vg_iaload (pc := 109) (j := 0) (dK D_Mo_count_0 32 rfl) (hw_11_0 hc0) rfl ⟨by decide, by decide⟩ rfl ?_
    exact vg_iretI (pc := 110) (r := (g S1 (tgt c0 0) 0)) (dK D_Mo_count_0 33 rfl) rfl (leK rfl) (leK rfl) (fun _ => rfl) (by obtain rfl := Option.some.inj h; exact ⟨rfl, (g_in _ _ _), rfl⟩)
  replace h := ifN h hk10
  by_cases hk11 : a1 = 7
  · have h := ifP h hk11
    refine vg_tabK (pc := 6) (kk := 7) (t := 111) (dK D_Mo_count_0 4 rfl) hk11 rfl rfl rfl rfl ?_
    refine g_aloadn (pc := 111) (i0 := 0) (j := 0) (dK D_Mo_count_0 34 rfl) rfl rfl ?_
    refine bnE h (fun p12 e_p12 h => ?_)
    refine vg_cV (pc := 112) (As := []) (rest := []) (mc' := 0) (ms' := 0) (dK D_Mo_count_0 35 rfl) K_Mo_138 (fitK rfl) (ltK rfl) hc0 rfl (leK rfl) (leK rfl) (leK rfl) (tf_Mo_placedAds hc0 e_p12) (kcI (fun h_p12 => ?_))
    exact vg_iretI (pc := 115) (r := p12) (dK D_Mo_count_0 36 rfl) rfl (leK rfl) (leK rfl) (fun _ => rfl) (by obtain rfl := Option.some.inj h; exact ⟨rfl, h_p12, rfl⟩)
  replace h := ifN h hk11
  by_cases hk13 : a1 = 8
  · have h := ifP h hk13
    refine vg_tabK (pc := 6) (kk := 8) (t := 116) (dK D_Mo_count_0 4 rfl) hk13 rfl rfl rfl rfl ?_
    refine g_aloadn (pc := 116) (i0 := 0) (j := 0) (dK D_Mo_count_0 37 rfl) rfl rfl ?_
    refine bnE h (fun p14 e_p14 h => ?_)
    refine vg_cV (pc := 117) (As := []) (rest := []) (mc' := 0) (ms' := 0) (dK D_Mo_count_0 38 rfl) K_Mo_141 (fitK rfl) (ltK rfl) hc0 rfl (leK rfl) (leK rfl) (leK rfl) (tf_Mo_placedStories hc0 e_p14) (kcI (fun h_p14 => ?_))
    exact vg_iretI (pc := 120) (r := p14) (dK D_Mo_count_0 39 rfl) rfl (leK rfl) (leK rfl) (fun _ => rfl) (by obtain rfl := Option.some.inj h; exact ⟨rfl, h_p14, rfl⟩)
  replace h := ifN h hk13
  by_cases hk15 : a1 = 9
  · have h := ifP h hk15
    refine vg_tabK (pc := 6) (kk := 9) (t := 121) (dK D_Mo_count_0 4 rfl) hk15 rfl rfl rfl rfl ?_
    refine g_aloadn (pc := 121) (i0 := 0) (j := 0) (dK D_Mo_count_0 40 rfl) rfl rfl ?_
    refine bnE h (fun p16 e_p16 h => ?_)
    refine vg_cV (pc := 122) (As := []) (rest := []) (mc' := 0) (ms' := 0) (dK D_Mo_count_0 41 rfl) K_Mo_144 (fitK rfl) (ltK rfl) hc0 rfl (leK rfl) (leK rfl) (leK rfl) (tf_Mo_usedStandbys hc0 e_p16) (kcI (fun h_p16 => ?_))
    exact vg_iretI (pc := 125) (r := p16) (dK D_Mo_count_0 42 rfl) rfl (leK rfl) (leK rfl) (fun _ => rfl) (by obtain rfl := Option.some.inj h; exact ⟨rfl, h_p16, rfl⟩)
  replace h := ifN h hk15
  by_cases hk17 : a1 = 10
  · have h := ifP h hk17
    refine vg_tabK (pc := 6) (kk := 10) (t := 126) (dK D_Mo_count_0 4 rfl) hk17 rfl rfl rfl rfl ?_
    refine g_aloadn (pc := 126) (i0 := 0) (j := 0) (dK D_Mo_count_0 43 rfl) rfl rfl ?_
    refine vg_iconst (pc := 127) (dK D_Mo_count_0 44 rfl) ?_
    refine bnE h (fun p18 e_p18 h => ?_)
    refine vg_cV (pc := 128) (As := [V 1]) (rest := []) (mc' := 0) (ms' := 0) (dK D_Mo_count_0 45 rfl) K_Mo_147 (fitK rfl) (ltK rfl) hc0 rfl (leK rfl) (leK rfl) (leK rfl) (tf_Mo_formsWith hc0 (inRk rfl) e_p18) (kcI (fun h_p18 => ?_))
    exact vg_iretI (pc := 131) (r := p18) (dK D_Mo_count_0 46 rfl) rfl (leK rfl) (leK rfl) (fun _ => rfl) (by obtain rfl := Option.some.inj h; exact ⟨rfl, h_p18, rfl⟩)
  replace h := ifN h hk17
  by_cases hk19 : a1 = 11
  · have h := ifP h hk19
    refine vg_tabK (pc := 6) (kk := 11) (t := 132) (dK D_Mo_count_0 4 rfl) hk19 rfl rfl rfl rfl ?_
    refine g_aloadn (pc := 132) (i0 := 0) (j := 0) (dK D_Mo_count_0 47 rfl) rfl rfl ?_
    refine vg_iconst (pc := 133) (dK D_Mo_count_0 48 rfl) ?_
    refine bnE h (fun p20 e_p20 h => ?_)
    refine vg_cV (pc := 134) (As := [V 0]) (rest := []) (mc' := 0) (ms' := 0) (dK D_Mo_count_0 49 rfl) K_Mo_147 (fitK rfl) (ltK rfl) hc0 rfl (leK rfl) (leK rfl) (leK rfl) (tf_Mo_formsWith hc0 (inRk rfl) e_p20) (kcI (fun h_p20 => ?_))
    exact vg_iretI (pc := 137) (r := p20) (dK D_Mo_count_1 0 rfl) rfl (leK rfl) (leK rfl) (fun _ => rfl) (by obtain rfl := Option.some.inj h; exact ⟨rfl, h_p20, rfl⟩)
  replace h := ifN h hk19
  refine vg_tabD (pc := 6) (t := 138) (lo := 0) (hi := 11) (dK D_Mo_count_0 4 rfl) ha1 (by omega) rfl ?_
  refine vg_iconst (pc := 138) (dK D_Mo_count_1 1 rfl) ?_
  exact vg_iretI (pc := 139) (r := (-1)) (dK D_Mo_count_1 2 rfl) rfl (leK rfl) (leK rfl) (fun _ => rfl) (by obtain rfl := Option.some.inj h; exact ⟨rfl, (inRk rfl), rfl⟩)
def fn_Mo_isSize (a0 : Int) (S : St) : Option (Bool) := if a0 = 1 then (some true) else (if a0 = 2 then (some true) else (if a0 = 4 then (some true) else (some false)))
theorem tf_Mo_isSize {E : EV} {X : XT} {a0 : Int} (ha0 : inR a0) {S : St} {q : Bool} (h : fn_Mo_isSize a0 S = some q) : Ev E M_Mo_isSize [V a0] (WX X S) 0 0 (KB X q S) := by
  refine Ev.of pn_Mo rfl (leK rfl) ?_
  show Go E M_Mo_isSize 0 0 0 [(0, V a0)] [] (WX X S) 0 0 (KB X q S)
  unfold fn_Mo_isSize at h
  refine g_iloadn (pc := 0) (i0 := 0) (j := 0) (dK D_Mo_isSize 0 rfl) rfl rfl ?_
  refine vg_iconst (pc := 1) (dK D_Mo_isSize 1 rfl) ?_
  refine vg_icmp_eq (pc := 2) (t := 15) (dK D_Mo_isSize 2 rfl) rfl ha0 (inRk rfl) (fun hc3 => ?_) (fun hc3 => ?_)
  · replace h := ifP h hc3
    refine vg_iconst (pc := 15) (dK D_Mo_isSize 9 rfl) ?_
    refine g_goto (pc := 16) (tgt := 20) (dK D_Mo_isSize 10 rfl) rfl ?_
    exact vg_iretB (pc := 20) (b := true) (dK D_Mo_isSize 12 rfl) rfl (leK rfl) (leK rfl) (fun _ => rfl) (by obtain rfl := Option.some.inj h; exact ⟨rfl, rfl⟩)
  · replace h := ifN h hc3
    refine g_iloadn (pc := 5) (i0 := 0) (j := 0) (dK D_Mo_isSize 3 rfl) rfl rfl ?_
    refine vg_iconst (pc := 6) (dK D_Mo_isSize 4 rfl) ?_
    refine vg_icmp_eq (pc := 7) (t := 15) (dK D_Mo_isSize 5 rfl) rfl ha0 (inRk rfl) (fun hc2 => ?_) (fun hc2 => ?_)
    · replace h := ifP h hc2
      refine vg_iconst (pc := 15) (dK D_Mo_isSize 9 rfl) ?_
      refine g_goto (pc := 16) (tgt := 20) (dK D_Mo_isSize 10 rfl) rfl ?_
      exact vg_iretB (pc := 20) (b := true) (dK D_Mo_isSize 12 rfl) rfl (leK rfl) (leK rfl) (fun _ => rfl) (by obtain rfl := Option.some.inj h; exact ⟨rfl, rfl⟩)
    · replace h := ifN h hc2
      refine g_iloadn (pc := 10) (i0 := 0) (j := 0) (dK D_Mo_isSize 6 rfl) rfl rfl ?_
      refine vg_iconst (pc := 11) (dK D_Mo_isSize 7 rfl) ?_
      refine vg_icmp_ne (pc := 12) (t := 19) (dK D_Mo_isSize 8 rfl) rfl ha0 (inRk rfl) (fun hc1 => ?_) (fun hc1 => ?_)
      · replace h := ifN h hc1
        refine vg_iconst (pc := 19) (dK D_Mo_isSize 11 rfl) ?_
        exact vg_iretB (pc := 20) (b := false) (dK D_Mo_isSize 12 rfl) rfl (leK rfl) (leK rfl) (fun _ => rfl) (by obtain rfl := Option.some.inj h; exact ⟨rfl, rfl⟩)
      · replace h := ifP h hc1
        refine vg_iconst (pc := 15) (dK D_Mo_isSize 9 rfl) ?_
        refine g_goto (pc := 16) (tgt := 20) (dK D_Mo_isSize 10 rfl) rfl ?_
        exact vg_iretB (pc := 20) (b := true) (dK D_Mo_isSize 12 rfl) rfl (leK rfl) (leK rfl) (fun _ => rfl) (by obtain rfl := Option.some.inj h; exact ⟨rfl, rfl⟩)
def lb_Mo_record_11 (c0 : Nat) (go : Int × St → Option (St)) (a1 : Int) (S : St) : Option (St) := if 20 ≤ a1 then (some S) else (nm (wr ((3 + a1) - 1)) fun v4 => nm (wr (3 + a1)) fun v5 => bnO (fn_Mo_copyBlock c0 v5 v4 S) fun p6 => nm (wr (a1 + 1)) fun v7 => go (v7, p6))
def lo_Mo_record_11 (c0 : Nat) : Nat → Int × St → Option (St) := lp fun go p => lb_Mo_record_11 c0 go p.1 p.2
theorem tl_Mo_record_11 {E : EV} {X : XT} {c0 : Nat} (hc0 : HC X 11 c0) {K : RK → PS → Prop} {q : St} (hx : Go E M_Mo_record 0 0 35 [(0, .ref c0)] [] (WX X q) 0 0 K) : ∀ n a, lo_Mo_record_11 c0 n a = some q → inR a.1 → Go E M_Mo_record 0 0 11 [(0, .ref c0), (1, V a.1)] [] (WX X a.2) 0 0 K := by
  refine lp_ind (P := fun a : Int × St => inR a.1 → Go E M_Mo_record 0 0 11 [(0, .ref c0), (1, V a.1)] [] (WX X a.2) 0 0 K) (fun go ih a h => ?_)
  obtain ⟨a1, S⟩ := a
  intro ha1
  show Go E M_Mo_record 0 0 11 [(0, .ref c0), (1, V a1)] [] (WX X S) 0 0 K
  replace h : lb_Mo_record_11 c0 go a1 S = some q := h
  unfold lb_Mo_record_11 at h
  refine g_iloadn (pc := 11) (i0 := 1) (j := 1) (dK D_Mo_record 6 rfl) rfl rfl ?_
  refine vg_bipush (pc := 12) (dK D_Mo_record 7 rfl) rfl ?_
  refine vg_icmp_ge (pc := 14) (t := 35) (dK D_Mo_record 8 rfl) rfl ha1 (inRk rfl) (fun hc8 => ?_) (fun hc8 => ?_)
  · replace h := ifP h hc8
    obtain rfl := Option.some.inj h
    refine gL_weak (ls' := [(0, .ref c0)]) (sbc 0 rfl sbn) ?_
    exact hx 
  · replace h := ifN h hc8
    refine g_aloadn (pc := 17) (i0 := 0) (j := 0) (dK D_Mo_record 9 rfl) rfl rfl ?_
    refine vg_iconst (pc := 18) (dK D_Mo_record 10 rfl) ?_
    refine g_iloadn (pc := 19) (i0 := 1) (j := 1) (dK D_Mo_record 11 rfl) rfl rfl ?_
    refine vg_iadd (pc := 20) (dK D_Mo_record 12 rfl) ?_
    refine vg_iconst (pc := 21) (dK D_Mo_record 13 rfl) ?_
    refine g_iloadn (pc := 22) (i0 := 1) (j := 1) (dK D_Mo_record 14 rfl) rfl rfl ?_
    refine vg_iadd (pc := 23) (dK D_Mo_record 15 rfl) ?_
    refine vg_iconst (pc := 24) (dK D_Mo_record 16 rfl) ?_
    refine vg_isub (pc := 25) (dK D_Mo_record 17 rfl) ?_
    refine nmE h (fun v4 e_v4 h => ?_)
    refine gtop e_v4 ?_
    refine nmE h (fun v5 e_v5 h => ?_)
    refine gsk (st' := [V v4, V v5, .ref c0]) (by rw [Vn e_v5]) ?_
    refine bnE h (fun p6 e_p6 h => ?_)
    refine vg_cV (pc := 26) (As := [V v5, V v4]) (rest := []) (mc' := 0) (ms' := 0) (dK D_Mo_record 18 rfl) K_Mo_59 (fitK rfl) (ltK rfl) hc0 rfl (leK rfl) (leK rfl) (leK rfl) (tf_Mo_copyBlock hc0 (Vn_in e_v5) (Vn_in e_v4) e_p6) (kcU ?_)
    refine nmE h (fun v7 e_v7 h => ?_)
    refine vg_iinc (pc := 29) (j := 1) (a := a1) (z := 1) (ls2 := [(1, V v7), (0, .ref c0)]) (dK D_Mo_record 19 rfl) rfl e_v7 (ltK rfl) rfl ?_
    refine g_goto (pc := 32) (tgt := 11) (dK D_Mo_record 20 rfl) rfl ?_
    refine gL_weak (ls' := [(0, .ref c0), (1, V v7)]) (sbc 1 rfl (sbc 0 rfl sbn)) ?_
    replace h := ih _ h
    exact h (Vn_in e_v7)
def fn_Mo_record (c0 : Nat) (S : St) : Option (St) := if (g S c0 3) = 20 then (bnO (lo_Mo_record_11 c0 FU (1, S)) fun p9 => nm (u p9 c0 3 ((g p9 c0 3) - 1)) fun S10 => nm (wr (3 + (g S10 c0 3))) fun v11 => bnO (fn_Mo_copyBlock c0 0 v11 S10) fun p12 => nm (u p12 c0 3 ((g p12 c0 3) + 1)) fun S13 => some S13) else (nm (wr (3 + (g S c0 3))) fun v1 => bnO (fn_Mo_copyBlock c0 0 v1 S) fun p2 => nm (u p2 c0 3 ((g p2 c0 3) + 1)) fun S3 => some S3)
theorem tf_Mo_record {E : EV} {X : XT} {c0 : Nat} (hc0 : HC X 11 c0) {S : St} {q : St} (h : fn_Mo_record c0 S = some q) : Ev E M_Mo_record [.ref c0] (WX X S) 0 0 (KU X q) := by
  refine Ev.of pn_Mo rfl (leK rfl) ?_
  show Go E M_Mo_record 0 0 0 [(0, .ref c0)] [] (WX X S) 0 0 (KU X q)
  unfold fn_Mo_record at h
  refine g_aloadn (pc := 0) (i0 := 0) (j := 0) (dK D_Mo_record 0 rfl) rfl rfl ?_
  refine vg_getI (pc := 1) (ci := 11) (f := 3) (dK D_Mo_record 1 rfl) q_1445 hc0 (ltK rfl) (ltK rfl) rfl ?_
  refine vg_bipush (pc := 4) (dK D_Mo_record 2 rfl) rfl ?_
  refine vg_icmp_ne (pc := 6) (t := 45) (dK D_Mo_record 3 rfl) rfl (g_in _ _ _) (inRk rfl) (fun hc14 => ?_) (fun hc14 => ?_)
  · replace h := ifN h hc14
    refine g_aloadn (pc := 45) (i0 := 0) (j := 0) (dK D_Mo_record 27 rfl) rfl rfl ?_
    refine vg_iconst (pc := 46) (dK D_Mo_record 28 rfl) ?_
    refine vg_iconst (pc := 47) (dK D_Mo_record 29 rfl) ?_
    refine g_aloadn (pc := 48) (i0 := 0) (j := 0) (dK D_Mo_record 30 rfl) rfl rfl ?_
    refine vg_getI (pc := 49) (ci := 11) (f := 3) (dK D_Mo_record 31 rfl) q_1445 hc0 (ltK rfl) (ltK rfl) rfl ?_
    refine vg_iadd (pc := 52) (dK D_Mo_record 32 rfl) ?_
    refine nmE h (fun v1 e_v1 h => ?_)
    refine gtop e_v1 ?_
    refine bnE h (fun p2 e_p2 h => ?_)
    refine vg_cV (pc := 53) (As := [V 0, V v1]) (rest := []) (mc' := 0) (ms' := 0) (dK D_Mo_record 33 rfl) K_Mo_59 (fitK rfl) (ltK rfl) hc0 rfl (leK rfl) (leK rfl) (leK rfl) (tf_Mo_copyBlock hc0 (inRk rfl) (Vn_in e_v1) e_p2) (kcU ?_)
    refine g_aloadn (pc := 56) (i0 := 0) (j := 0) (dK D_Mo_record 34 rfl) rfl rfl ?_
    refine g_dup (pc := 57) (dK D_Mo_record 35 rfl) rfl ?_
    refine vg_getI (pc := 58) (ci := 11) (f := 3) (dK D_Mo_record 36 rfl) q_1445 hc0 (ltK rfl) (ltK rfl) rfl ?_
    refine vg_iconst (pc := 61) (dK D_Mo_record 37 rfl) ?_
    refine vg_iadd (pc := 62) (dK D_Mo_record 38 rfl) ?_
    refine nmE h (fun S3 e_S3 h => ?_)
    refine vg_putI (pc := 63) (ci := 11) (f := 3) (z := ((g p2 c0 3) + 1)) (dK D_Mo_record 39 rfl) q_1445 hc0 (ltK rfl) (ltK rfl) rfl rfl e_S3 ?_
    exact g_return (pc := 66) (dK D_Mo_record 40 rfl) rfl (leK rfl) (leK rfl) (fun _ => rfl) (by obtain rfl := Option.some.inj h; exact ⟨rfl, rfl⟩)
  · replace h := ifP h hc14
    refine vg_iconst (pc := 9) (dK D_Mo_record 4 rfl) ?_
    refine g_istoren (pc := 10) (i0 := 1) (ls2 := [(1, V 1), (0, .ref c0)]) (dK D_Mo_record 5 rfl) rfl (ltK rfl) rfl ?_
    refine bnE h (fun p9 e_p9 h => ?_)
    refine gL_weak (ls' := [(0, .ref c0), (1, V 1)]) (sbc 1 rfl (sbc 0 rfl sbn)) ?_
    refine tl_Mo_record_11 hc0 ?_ FU (1, S) e_p9 (inRk rfl)
    refine g_aloadn (pc := 35) (i0 := 0) (j := 0) (dK D_Mo_record 21 rfl) rfl rfl ?_
    refine g_dup (pc := 36) (dK D_Mo_record 22 rfl) rfl ?_
    refine vg_getI (pc := 37) (ci := 11) (f := 3) (dK D_Mo_record 23 rfl) q_1445 hc0 (ltK rfl) (ltK rfl) rfl ?_
    refine vg_iconst (pc := 40) (dK D_Mo_record 24 rfl) ?_
    refine vg_isub (pc := 41) (dK D_Mo_record 25 rfl) ?_
    refine nmE h (fun S10 e_S10 h => ?_)
    refine vg_putI (pc := 42) (ci := 11) (f := 3) (z := ((g p9 c0 3) - 1)) (dK D_Mo_record 26 rfl) q_1445 hc0 (ltK rfl) (ltK rfl) rfl rfl e_S10 ?_
    refine g_aloadn (pc := 45) (i0 := 0) (j := 0) (dK D_Mo_record 27 rfl) rfl rfl ?_
    refine vg_iconst (pc := 46) (dK D_Mo_record 28 rfl) ?_
    refine vg_iconst (pc := 47) (dK D_Mo_record 29 rfl) ?_
    refine g_aloadn (pc := 48) (i0 := 0) (j := 0) (dK D_Mo_record 30 rfl) rfl rfl ?_
    refine vg_getI (pc := 49) (ci := 11) (f := 3) (dK D_Mo_record 31 rfl) q_1445 hc0 (ltK rfl) (ltK rfl) rfl ?_
    refine vg_iadd (pc := 52) (dK D_Mo_record 32 rfl) ?_
    refine nmE h (fun v11 e_v11 h => ?_)
    refine gtop e_v11 ?_
    refine bnE h (fun p12 e_p12 h => ?_)
    refine vg_cV (pc := 53) (As := [V 0, V v11]) (rest := []) (mc' := 0) (ms' := 0) (dK D_Mo_record 33 rfl) K_Mo_59 (fitK rfl) (ltK rfl) hc0 rfl (leK rfl) (leK rfl) (leK rfl) (tf_Mo_copyBlock hc0 (inRk rfl) (Vn_in e_v11) e_p12) (kcU ?_)
    refine g_aloadn (pc := 56) (i0 := 0) (j := 0) (dK D_Mo_record 34 rfl) rfl rfl ?_
    refine g_dup (pc := 57) (dK D_Mo_record 35 rfl) rfl ?_
    refine vg_getI (pc := 58) (ci := 11) (f := 3) (dK D_Mo_record 36 rfl) q_1445 hc0 (ltK rfl) (ltK rfl) rfl ?_
    refine vg_iconst (pc := 61) (dK D_Mo_record 37 rfl) ?_
    refine vg_iadd (pc := 62) (dK D_Mo_record 38 rfl) ?_
    refine nmE h (fun S13 e_S13 h => ?_)
    refine vg_putI (pc := 63) (ci := 11) (f := 3) (z := ((g p12 c0 3) + 1)) (dK D_Mo_record 39 rfl) q_1445 hc0 (ltK rfl) (ltK rfl) rfl rfl e_S13 ?_
    exact g_return (pc := 66) (dK D_Mo_record 40 rfl) rfl (leK rfl) (leK rfl) (fun _ => rfl) (by obtain rfl := Option.some.inj h; exact ⟨rfl, rfl⟩)
def fn_Mo_setOfAd (c0 : Nat) (a1 : Int) (a2 : Int) (a3 : Int) (S : St) : Option (St) := if 0 ≤ ((29 + (7 * a1)) + a2) ∧ ((29 + (7 * a1)) + a2) < 8740 then (nm (u S (tgt c0 0) ((((29 + (7 * a1)) + a2)).toNat) a3) fun S2 => some S2) else none
theorem tf_Mo_setOfAd {E : EV} {X : XT} {c0 : Nat} (hc0 : HC X 11 c0) {a1 : Int} (ha1 : inR a1) {a2 : Int} (ha2 : inR a2) {a3 : Int} (ha3 : inR a3) {S : St} {q : St} (h : fn_Mo_setOfAd c0 a1 a2 a3 S = some q) : Ev E M_Mo_setOfAd [.ref c0, V a1, V a2, V a3] (WX X S) 0 0 (KU X q) := by
  refine Ev.of pn_Mo rfl (leK rfl) ?_
  show Go E M_Mo_setOfAd 0 0 0 [(0, .ref c0), (1, V a1), (2, V a2), (3, V a3)] [] (WX X S) 0 0 (KU X q)
  unfold fn_Mo_setOfAd at h
  refine g_aloadn (pc := 0) (i0 := 0) (j := 0) (dK D_Mo_setOfAd 0 rfl) rfl rfl ?_
  refine vg_getA (pc := 1) (ci := 11) (f := 0) (dK D_Mo_setOfAd 1 rfl) q_1442 hc0 (ltK rfl) (ltK rfl) rfl ?_
  refine vg_bipush (pc := 4) (dK D_Mo_setOfAd 2 rfl) rfl ?_
  refine vg_bipush (pc := 6) (dK D_Mo_setOfAd 3 rfl) rfl ?_
  refine g_iloadn (pc := 8) (i0 := 1) (j := 1) (dK D_Mo_setOfAd 4 rfl) rfl rfl ?_
  refine vg_imul (pc := 9) (dK D_Mo_setOfAd 5 rfl) ?_
  refine vg_iadd (pc := 10) (dK D_Mo_setOfAd 6 rfl) ?_
  refine g_iloadn (pc := 11) (i0 := 2) (j := 2) (dK D_Mo_setOfAd 7 rfl) rfl rfl ?_
  refine vg_iadd (pc := 12) (dK D_Mo_setOfAd 8 rfl) ?_
  refine g_iloadn (pc := 13) (i0 := 3) (j := 3) (dK D_Mo_setOfAd 9 rfl) rfl rfl ?_
  refine gdE h (fun hi1 h => ?_)
  refine nmE h (fun S2 e_S2 h => ?_)
  refine vg_iastore (pc := 14) (z := a3) (dK D_Mo_setOfAd 10 rfl) (hw_11_0 hc0) rfl hi1 rfl e_S2 ?_
  exact g_return (pc := 15) (dK D_Mo_setOfAd 11 rfl) rfl (leK rfl) (leK rfl) (fun _ => rfl) (by obtain rfl := Option.some.inj h; exact ⟨rfl, rfl⟩)
def jf_Mo_addAd_55 (c0 : Nat) (a1 : Int) (a2 : Int) (a3 : Int) (a4 : Int) (t0 : Int) (d1 : Nat) (S : St) : Option (Int × St) := bnO (fn_Mo_throwsIf d1 t0 1 S) fun p4 => if p4.1 = true then (some (0, p4.2)) else (if (g p4.2 (tgt c0 0) 1) = 40 then (some ((-2), p4.2)) else (bnO (fn_Mo_record c0 p4.2) fun p6 => nm (u p6 (tgt c0 0) 1 ((g p6 (tgt c0 0) 1) + 1)) fun S7 => bnO (fn_Mo_setOfAd c0 (g p6 (tgt c0 0) 1) 0 a1 S7) fun p8 => bnO (fn_Mo_setOfAd c0 (g p6 (tgt c0 0) 1) 1 a2 p8) fun p9 => bnO (fn_Mo_setOfAd c0 (g p6 (tgt c0 0) 1) 2 0 p9) fun p10 => bnO (fn_Mo_setOfAd c0 (g p6 (tgt c0 0) 1) 3 0 p10) fun p11 => bnO (fn_Mo_setOfAd c0 (g p6 (tgt c0 0) 1) 4 a3 p11) fun p12 => bnO (fn_Mo_setOfAd c0 (g p6 (tgt c0 0) 1) 5 a4 p12) fun p13 => bnO (fn_Mo_setOfAd c0 (g p6 (tgt c0 0) 1) 6 0 p13) fun p14 => some ((g p6 (tgt c0 0) 1), p14)))
theorem tj_Mo_addAd_55 {E : EV} {X : XT} {c0 : Nat} (hc0 : HC X 11 c0) {a1 : Int} (ha1 : inR a1) {a2 : Int} (ha2 : inR a2) {a3 : Int} (ha3 : inR a3) {a4 : Int} (ha4 : inR a4) {t0 : Int} (ht0 : inR t0) {d1 : Nat} (hd1 : HC X 11 d1) {S : St} {q : Int × St} (h : jf_Mo_addAd_55 c0 a1 a2 a3 a4 t0 d1 S = some q) : Go E M_Mo_addAd 0 0 55 [(0, .ref c0), (1, V a1), (2, V a2), (3, V a3), (4, V a4)] [V t0, .ref d1] (WX X S) 0 0 (KI X q.1 q.2) := by
  unfold jf_Mo_addAd_55 at h
  refine vg_iconst (pc := 55) (dK D_Mo_addAd_0 28 rfl) ?_
  refine bnE h (fun p4 e_p4 h => ?_)
  refine vg_cV (pc := 56) (As := [V t0, V 1]) (rest := []) (mc' := 0) (ms' := 0) (dK D_Mo_addAd_0 29 rfl) K_Mo_125 (fitK rfl) (ltK rfl) hd1 rfl (leK rfl) (leK rfl) (leK rfl) (tf_Mo_throwsIf hd1 ht0 (inRk rfl) e_p4) (kcB ?_)
  refine vg_ifB_eq (pc := 59) (b := p4.1) (t := 64) (dK D_Mo_addAd_0 30 rfl) rfl (fun hc5 => ?_) (fun hc5 => ?_)
  · replace h := ifP h hc5
    refine vg_iconst (pc := 62) (dK D_Mo_addAd_0 31 rfl) ?_
    exact vg_iretI (pc := 63) (r := 0) (dK D_Mo_addAd_0 32 rfl) rfl (leK rfl) (leK rfl) (fun _ => rfl) (by obtain rfl := Option.some.inj h; exact ⟨rfl, (inRk rfl), rfl⟩)
  · replace h := ifN h hc5
    refine g_aloadn (pc := 64) (i0 := 0) (j := 0) (dK D_Mo_addAd_0 33 rfl) rfl rfl ?_
    refine vg_getA (pc := 65) (ci := 11) (f := 0) (dK D_Mo_addAd_0 34 rfl) q_1442 hc0 (ltK rfl) (ltK rfl) rfl ?_
    refine vg_iconst (pc := 68) (dK D_Mo_addAd_0 35 rfl) ?_
    refine vg_iaload (pc := 69) (j := 1) (dK D_Mo_addAd_0 36 rfl) (hw_11_0 hc0) rfl ⟨by decide, by decide⟩ rfl ?_
    refine vg_bipush (pc := 70) (dK D_Mo_addAd_0 37 rfl) rfl ?_
    refine vg_icmp_ne (pc := 72) (t := 78) (dK D_Mo_addAd_0 38 rfl) rfl (g_in _ _ _) (inRk rfl) (fun hc15 => ?_) (fun hc15 => ?_)
    · replace h := ifN h hc15
      refine g_aloadn (pc := 78) (i0 := 0) (j := 0) (dK D_Mo_addAd_0 41 rfl) rfl rfl ?_
      refine bnE h (fun p6 e_p6 h => ?_)
      refine vg_cV (pc := 79) (As := []) (rest := []) (mc' := 0) (ms' := 0) (dK D_Mo_addAd_0 42 rfl) K_Mo_159 (fitK rfl) (ltK rfl) hc0 rfl (leK rfl) (leK rfl) (leK rfl) (tf_Mo_record hc0 e_p6) (kcU ?_)
      refine g_aloadn (pc := 82) (i0 := 0) (j := 0) (dK D_Mo_addAd_0 43 rfl) rfl rfl ?_
      refine vg_getA (pc := 83) (ci := 11) (f := 0) (dK D_Mo_addAd_0 44 rfl) q_1442 hc0 (ltK rfl) (ltK rfl) rfl ?_
      refine vg_iconst (pc := 86) (dK D_Mo_addAd_0 45 rfl) ?_
      refine vg_iaload (pc := 87) (j := 1) (dK D_Mo_addAd_0 46 rfl) (hw_11_0 hc0) rfl ⟨by decide, by decide⟩ rfl ?_
      refine g_istore (pc := 88) (ls2 := [(5, V (g p6 (tgt c0 0) 1)), (0, .ref c0), (1, V a1), (2, V a2), (3, V a3), (4, V a4)]) (dK D_Mo_addAd_0 47 rfl) (ltK rfl) rfl ?_
      refine g_aloadn (pc := 90) (i0 := 0) (j := 1) (dK D_Mo_addAd_0 48 rfl) rfl rfl ?_
      refine vg_getA (pc := 91) (ci := 11) (f := 0) (dK D_Mo_addAd_0 49 rfl) q_1442 hc0 (ltK rfl) (ltK rfl) rfl ?_
      refine vg_iconst (pc := 94) (dK D_Mo_addAd_1 0 rfl) ?_
      refine g_dup2 (pc := 95) (dK D_Mo_addAd_1 1 rfl) rfl rfl ?_
      refine vg_iaload (pc := 96) (j := 1) (dK D_Mo_addAd_1 2 rfl) (hw_11_0 hc0) rfl ⟨by decide, by decide⟩ rfl ?_
      refine vg_iconst (pc := 97) (dK D_Mo_addAd_1 3 rfl) ?_
      refine vg_iadd (pc := 98) (dK D_Mo_addAd_1 4 rfl) ?_
      refine nmE h (fun S7 e_S7 h => ?_)
      refine vg_iastore (pc := 99) (z := ((g p6 (tgt c0 0) 1) + 1)) (dK D_Mo_addAd_1 5 rfl) (hw_11_0 hc0) rfl ⟨by decide, by decide⟩ rfl e_S7 ?_
      refine g_aloadn (pc := 100) (i0 := 0) (j := 1) (dK D_Mo_addAd_1 6 rfl) rfl rfl ?_
      refine g_iload (pc := 101) (j := 0) (dK D_Mo_addAd_1 7 rfl) rfl ?_
      refine vg_iconst (pc := 103) (dK D_Mo_addAd_1 8 rfl) ?_
      refine g_iloadn (pc := 104) (i0 := 1) (j := 2) (dK D_Mo_addAd_1 9 rfl) rfl rfl ?_
      refine bnE h (fun p8 e_p8 h => ?_)
      refine vg_cV (pc := 105) (As := [V (g p6 (tgt c0 0) 1), V 0, V a1]) (rest := []) (mc' := 0) (ms' := 0) (dK D_Mo_addAd_1 10 rfl) K_Mo_162 (fitK rfl) (ltK rfl) hc0 rfl (leK rfl) (leK rfl) (leK rfl) (tf_Mo_setOfAd hc0 (g_in _ _ _) (inRk rfl) ha1 e_p8) (kcU ?_)
      refine g_aloadn (pc := 108) (i0 := 0) (j := 1) (dK D_Mo_addAd_1 11 rfl) rfl rfl ?_
      refine g_iload (pc := 109) (j := 0) (dK D_Mo_addAd_1 12 rfl) rfl ?_
      refine vg_iconst (pc := 111) (dK D_Mo_addAd_1 13 rfl) ?_
      refine g_iloadn (pc := 112) (i0 := 2) (j := 3) (dK D_Mo_addAd_1 14 rfl) rfl rfl ?_
      refine bnE h (fun p9 e_p9 h => ?_)
      refine vg_cV (pc := 113) (As := [V (g p6 (tgt c0 0) 1), V 1, V a2]) (rest := []) (mc' := 0) (ms' := 0) (dK D_Mo_addAd_1 15 rfl) K_Mo_162 (fitK rfl) (ltK rfl) hc0 rfl (leK rfl) (leK rfl) (leK rfl) (tf_Mo_setOfAd hc0 (g_in _ _ _) (inRk rfl) ha2 e_p9) (kcU ?_)
      refine g_aloadn (pc := 116) (i0 := 0) (j := 1) (dK D_Mo_addAd_1 16 rfl) rfl rfl ?_
      refine g_iload (pc := 117) (j := 0) (dK D_Mo_addAd_1 17 rfl) rfl ?_
      refine vg_iconst (pc := 119) (dK D_Mo_addAd_1 18 rfl) ?_
      refine vg_iconst (pc := 120) (dK D_Mo_addAd_1 19 rfl) ?_
      refine bnE h (fun p10 e_p10 h => ?_)
      refine vg_cV (pc := 121) (As := [V (g p6 (tgt c0 0) 1), V 2, V 0]) (rest := []) (mc' := 0) (ms' := 0) (dK D_Mo_addAd_1 20 rfl) K_Mo_162 (fitK rfl) (ltK rfl) hc0 rfl (leK rfl) (leK rfl) (leK rfl) (tf_Mo_setOfAd hc0 (g_in _ _ _) (inRk rfl) (inRk rfl) e_p10) (kcU ?_)
      refine g_aloadn (pc := 124) (i0 := 0) (j := 1) (dK D_Mo_addAd_1 21 rfl) rfl rfl ?_
      refine g_iload (pc := 125) (j := 0) (dK D_Mo_addAd_1 22 rfl) rfl ?_
      refine vg_iconst (pc := 127) (dK D_Mo_addAd_1 23 rfl) ?_
      refine vg_iconst (pc := 128) (dK D_Mo_addAd_1 24 rfl) ?_
      refine bnE h (fun p11 e_p11 h => ?_)
      refine vg_cV (pc := 129) (As := [V (g p6 (tgt c0 0) 1), V 3, V 0]) (rest := []) (mc' := 0) (ms' := 0) (dK D_Mo_addAd_1 25 rfl) K_Mo_162 (fitK rfl) (ltK rfl) hc0 rfl (leK rfl) (leK rfl) (leK rfl) (tf_Mo_setOfAd hc0 (g_in _ _ _) (inRk rfl) (inRk rfl) e_p11) (kcU ?_)
      refine g_aloadn (pc := 132) (i0 := 0) (j := 1) (dK D_Mo_addAd_1 26 rfl) rfl rfl ?_
      refine g_iload (pc := 133) (j := 0) (dK D_Mo_addAd_1 27 rfl) rfl ?_
      refine vg_iconst (pc := 135) (dK D_Mo_addAd_1 28 rfl) ?_
      refine g_iloadn (pc := 136) (i0 := 3) (j := 4) (dK D_Mo_addAd_1 29 rfl) rfl rfl ?_
      refine bnE h (fun p12 e_p12 h => ?_)
      refine vg_cV (pc := 137) (As := [V (g p6 (tgt c0 0) 1), V 4, V a3]) (rest := []) (mc' := 0) (ms' := 0) (dK D_Mo_addAd_1 30 rfl) K_Mo_162 (fitK rfl) (ltK rfl) hc0 rfl (leK rfl) (leK rfl) (leK rfl) (tf_Mo_setOfAd hc0 (g_in _ _ _) (inRk rfl) ha3 e_p12) (kcU ?_)
      refine g_aloadn (pc := 140) (i0 := 0) (j := 1) (dK D_Mo_addAd_1 31 rfl) rfl rfl ?_
      refine g_iload (pc := 141) (j := 0) (dK D_Mo_addAd_1 32 rfl) rfl ?_
      refine vg_iconst (pc := 143) (dK D_Mo_addAd_1 33 rfl) ?_
      refine g_iload (pc := 144) (j := 5) (dK D_Mo_addAd_1 34 rfl) rfl ?_
      refine bnE h (fun p13 e_p13 h => ?_)
      refine vg_cV (pc := 146) (As := [V (g p6 (tgt c0 0) 1), V 5, V a4]) (rest := []) (mc' := 0) (ms' := 0) (dK D_Mo_addAd_1 35 rfl) K_Mo_162 (fitK rfl) (ltK rfl) hc0 rfl (leK rfl) (leK rfl) (leK rfl) (tf_Mo_setOfAd hc0 (g_in _ _ _) (inRk rfl) ha4 e_p13) (kcU ?_)
      refine g_aloadn (pc := 149) (i0 := 0) (j := 1) (dK D_Mo_addAd_1 36 rfl) rfl rfl ?_
      refine g_iload (pc := 150) (j := 0) (dK D_Mo_addAd_1 37 rfl) rfl ?_
      refine vg_bipush (pc := 152) (dK D_Mo_addAd_1 38 rfl) rfl ?_
      refine vg_iconst (pc := 154) (dK D_Mo_addAd_1 39 rfl) ?_
      refine bnE h (fun p14 e_p14 h => ?_)
      refine vg_cV (pc := 155) (As := [V (g p6 (tgt c0 0) 1), V 6, V 0]) (rest := []) (mc' := 0) (ms' := 0) (dK D_Mo_addAd_1 40 rfl) K_Mo_162 (fitK rfl) (ltK rfl) hc0 rfl (leK rfl) (leK rfl) (leK rfl) (tf_Mo_setOfAd hc0 (g_in _ _ _) (inRk rfl) (inRk rfl) e_p14) (kcU ?_)
      refine g_iload (pc := 158) (j := 0) (dK D_Mo_addAd_1 41 rfl) rfl ?_
      exact vg_iretI (pc := 160) (r := (g p6 (tgt c0 0) 1)) (dK D_Mo_addAd_1 42 rfl) rfl (leK rfl) (leK rfl) (fun _ => rfl) (by obtain rfl := Option.some.inj h; exact ⟨rfl, (g_in _ _ _), rfl⟩)
    · replace h := ifP h hc15
      refine vg_bipush (pc := 75) (dK D_Mo_addAd_0 39 rfl) rfl ?_
      exact vg_iretI (pc := 77) (r := (-2)) (dK D_Mo_addAd_0 40 rfl) rfl (leK rfl) (leK rfl) (fun _ => rfl) (by obtain rfl := Option.some.inj h; exact ⟨rfl, (inRk rfl), rfl⟩)
def fn_Mo_addAd (c0 : Nat) (a1 : Int) (a2 : Int) (a3 : Int) (a4 : Int) (S : St) : Option (Int × St) := nm (u S c0 4 0) fun S1 => bnO (fn_Mo_isSize a1 S1) fun p2 => if p2 = true then (bnO (fn_Mo_inRange a2 0 9 S1) fun p16 => if p16 = true then (bnO (fn_Mo_inRange a3 1 999 S1) fun p18 => if p18 = true then (bnO (fn_Mo_inRange a4 0 9999 S1) fun p20 => if p20 = true then (jf_Mo_addAd_55 c0 a1 a2 a3 a4 0 c0 S1) else (jf_Mo_addAd_55 c0 a1 a2 a3 a4 1 c0 S1)) else (jf_Mo_addAd_55 c0 a1 a2 a3 a4 1 c0 S1)) else (jf_Mo_addAd_55 c0 a1 a2 a3 a4 1 c0 S1)) else (jf_Mo_addAd_55 c0 a1 a2 a3 a4 1 c0 S1)
theorem tf_Mo_addAd {E : EV} {X : XT} {c0 : Nat} (hc0 : HC X 11 c0) {a1 : Int} (ha1 : inR a1) {a2 : Int} (ha2 : inR a2) {a3 : Int} (ha3 : inR a3) {a4 : Int} (ha4 : inR a4) {S : St} {q : Int × St} (h : fn_Mo_addAd c0 a1 a2 a3 a4 S = some q) : Ev E M_Mo_addAd [.ref c0, V a1, V a2, V a3, V a4] (WX X S) 0 0 (KI X q.1 q.2) := by
  refine Ev.of pn_Mo rfl (leK rfl) ?_
  show Go E M_Mo_addAd 0 0 0 [(0, .ref c0), (1, V a1), (2, V a2), (3, V a3), (4, V a4)] [] (WX X S) 0 0 (KI X q.1 q.2)
  unfold fn_Mo_addAd at h
  refine g_aloadn (pc := 0) (i0 := 0) (j := 0) (dK D_Mo_addAd_0 0 rfl) rfl rfl ?_
  refine vg_iconst (pc := 1) (dK D_Mo_addAd_0 1 rfl) ?_
  refine nmE h (fun S1 e_S1 h => ?_)
  refine vg_putI (pc := 2) (ci := 11) (f := 4) (z := 0) (dK D_Mo_addAd_0 2 rfl) q_1446 hc0 (ltK rfl) (ltK rfl) rfl rfl e_S1 ?_
  refine g_aloadn (pc := 5) (i0 := 0) (j := 0) (dK D_Mo_addAd_0 3 rfl) rfl rfl ?_
  refine g_iloadn (pc := 6) (i0 := 1) (j := 1) (dK D_Mo_addAd_0 4 rfl) rfl rfl ?_
  refine bnE h (fun p2 e_p2 h => ?_)
  refine vg_cS (pc := 7) (As := [V a1]) (rest := [.ref c0]) (mc' := 0) (ms' := 0) (dK D_Mo_addAd_0 5 rfl) K_Mo_150 (fitK rfl) rfl (leK rfl) (leK rfl) (leK rfl) (tf_Mo_isSize ha1 e_p2) (kcB ?_)
  refine vg_ifB_eq (pc := 10) (b := p2) (t := 50) (dK D_Mo_addAd_0 6 rfl) rfl (fun hc3 => ?_) (fun hc3 => ?_)
  · replace h := ifP h hc3
    refine g_iloadn (pc := 13) (i0 := 2) (j := 2) (dK D_Mo_addAd_0 7 rfl) rfl rfl ?_
    refine vg_i2l (pc := 14) (dK D_Mo_addAd_0 8 rfl) ha2 ?_
    refine vg_lconst (pc := 15) (y := 0) (dK D_Mo_addAd_0 9 rfl) rfl ?_
    refine vg_ldc2 (pc := 16) (y := 9) (dK D_Mo_addAd_0 10 rfl) q_1648 rfl ?_
    refine bnE h (fun p16 e_p16 h => ?_)
    refine vg_cS (pc := 19) (As := [J a2, J 0, J 9]) (rest := [.ref c0]) (mc' := 0) (ms' := 0) (dK D_Mo_addAd_0 11 rfl) K_Mo_67 (fitK rfl) rfl (leK rfl) (leK rfl) (leK rfl) (tf_Mo_inRange (inR_L ha2) (inLk rfl) (inLk rfl) e_p16) (kcB ?_)
    refine vg_ifB_eq (pc := 22) (b := p16) (t := 50) (dK D_Mo_addAd_0 12 rfl) rfl (fun hc17 => ?_) (fun hc17 => ?_)
    · replace h := ifP h hc17
      refine g_iloadn (pc := 25) (i0 := 3) (j := 3) (dK D_Mo_addAd_0 13 rfl) rfl rfl ?_
      refine vg_i2l (pc := 26) (dK D_Mo_addAd_0 14 rfl) ha3 ?_
      refine vg_lconst (pc := 27) (y := 1) (dK D_Mo_addAd_0 15 rfl) rfl ?_
      refine vg_ldc2 (pc := 28) (y := 999) (dK D_Mo_addAd_0 16 rfl) q_1649 rfl ?_
      refine bnE h (fun p18 e_p18 h => ?_)
      refine vg_cS (pc := 31) (As := [J a3, J 1, J 999]) (rest := [.ref c0]) (mc' := 0) (ms' := 0) (dK D_Mo_addAd_0 17 rfl) K_Mo_67 (fitK rfl) rfl (leK rfl) (leK rfl) (leK rfl) (tf_Mo_inRange (inR_L ha3) (inLk rfl) (inLk rfl) e_p18) (kcB ?_)
      refine vg_ifB_eq (pc := 34) (b := p18) (t := 50) (dK D_Mo_addAd_0 18 rfl) rfl (fun hc19 => ?_) (fun hc19 => ?_)
      · replace h := ifP h hc19
        refine g_iload (pc := 37) (j := 4) (dK D_Mo_addAd_0 19 rfl) rfl ?_
        refine vg_i2l (pc := 39) (dK D_Mo_addAd_0 20 rfl) ha4 ?_
        refine vg_lconst (pc := 40) (y := 0) (dK D_Mo_addAd_0 21 rfl) rfl ?_
        refine vg_ldc2 (pc := 41) (y := 9999) (dK D_Mo_addAd_0 22 rfl) q_1650 rfl ?_
        refine bnE h (fun p20 e_p20 h => ?_)
        refine vg_cS (pc := 44) (As := [J a4, J 0, J 9999]) (rest := [.ref c0]) (mc' := 0) (ms' := 0) (dK D_Mo_addAd_0 23 rfl) K_Mo_67 (fitK rfl) rfl (leK rfl) (leK rfl) (leK rfl) (tf_Mo_inRange (inR_L ha4) (inLk rfl) (inLk rfl) e_p20) (kcB ?_)
        refine vg_ifB_ne (pc := 47) (b := p20) (t := 54) (dK D_Mo_addAd_0 24 rfl) rfl (fun hc21 => ?_) (fun hc21 => ?_)
        · replace h := ifP h hc21
          refine vg_iconst (pc := 54) (dK D_Mo_addAd_0 27 rfl) ?_
          exact tj_Mo_addAd_55 hc0 ha1 ha2 ha3 ha4 (inRk rfl) hc0 h
        · replace h := ifN h hc21
          refine vg_iconst (pc := 50) (dK D_Mo_addAd_0 25 rfl) ?_
          refine g_goto (pc := 51) (tgt := 55) (dK D_Mo_addAd_0 26 rfl) rfl ?_
          exact tj_Mo_addAd_55 hc0 ha1 ha2 ha3 ha4 (inRk rfl) hc0 h
      · replace h := ifN h hc19
        refine vg_iconst (pc := 50) (dK D_Mo_addAd_0 25 rfl) ?_
        refine g_goto (pc := 51) (tgt := 55) (dK D_Mo_addAd_0 26 rfl) rfl ?_
        exact tj_Mo_addAd_55 hc0 ha1 ha2 ha3 ha4 (inRk rfl) hc0 h
    · replace h := ifN h hc17
      refine vg_iconst (pc := 50) (dK D_Mo_addAd_0 25 rfl) ?_
      refine g_goto (pc := 51) (tgt := 55) (dK D_Mo_addAd_0 26 rfl) rfl ?_
      exact tj_Mo_addAd_55 hc0 ha1 ha2 ha3 ha4 (inRk rfl) hc0 h
  · replace h := ifN h hc3
    refine vg_iconst (pc := 50) (dK D_Mo_addAd_0 25 rfl) ?_
    refine g_goto (pc := 51) (tgt := 55) (dK D_Mo_addAd_0 26 rfl) rfl ?_
    exact tj_Mo_addAd_55 hc0 ha1 ha2 ha3 ha4 (inRk rfl) hc0 h
def jf_Mo_setAd_19 (c0 : Nat) (a1 : Int) (a2 : Int) (a3 : Int) (t0 : Int) (d1 : Nat) (S : St) : Option (Bool × St) := bnO (fn_Mo_throwsIf d1 t0 1 S) fun p4 => if p4.1 = true then (some (false, p4.2)) else (bnO (fn_Mo_inRange a3 0 2 p4.2) fun p6 => if p6 = true then (bnO (fn_Mo_throwsIf c0 0 2 p4.2) fun p8 => if p8.1 = true then (some (false, p8.2)) else (bnO (fn_Mo_ofAd c0 a1 6 p8.2) fun p10 => if p10 ≤ 0 then (bnO (fn_Mo_record c0 p8.2) fun p11 => if a2 = 0 then (bnO (fn_Mo_setOfAd c0 a1 2 0 p11) fun p12 => bnO (fn_Mo_setOfAd c0 a1 3 a3 p12) fun p13 => some (true, p13)) else (bnO (fn_Mo_setOfAd c0 a1 2 1 p11) fun p14 => bnO (fn_Mo_setOfAd c0 a1 3 a3 p14) fun p15 => some (true, p15))) else (some (false, p8.2)))) else (bnO (fn_Mo_throwsIf c0 1 2 p4.2) fun p18 => if p18.1 = true then (some (false, p18.2)) else (bnO (fn_Mo_ofAd c0 a1 6 p18.2) fun p20 => if p20 ≤ 0 then (bnO (fn_Mo_record c0 p18.2) fun p21 => if a2 = 0 then (bnO (fn_Mo_setOfAd c0 a1 2 0 p21) fun p22 => bnO (fn_Mo_setOfAd c0 a1 3 a3 p22) fun p23 => some (true, p23)) else (bnO (fn_Mo_setOfAd c0 a1 2 1 p21) fun p24 => bnO (fn_Mo_setOfAd c0 a1 3 a3 p24) fun p25 => some (true, p25))) else (some (false, p18.2)))))
theorem tj_Mo_setAd_19 {E : EV} {X : XT} {c0 : Nat} (hc0 : HC X 11 c0) {a1 : Int} (ha1 : inR a1) {a2 : Int} (ha2 : inR a2) {a3 : Int} (ha3 : inR a3) {t0 : Int} (ht0 : inR t0) {d1 : Nat} (hd1 : HC X 11 d1) {S : St} {q : Bool × St} (h : jf_Mo_setAd_19 c0 a1 a2 a3 t0 d1 S = some q) : Go E M_Mo_setAd 0 0 19 [(0, .ref c0), (1, V a1), (2, V a2), (3, V a3)] [V t0, .ref d1] (WX X S) 0 0 (KB X q.1 q.2) := by
  unfold jf_Mo_setAd_19 at h
  refine vg_iconst (pc := 19) (dK D_Mo_setAd_0 11 rfl) ?_
  refine bnE h (fun p4 e_p4 h => ?_)
  refine vg_cV (pc := 20) (As := [V t0, V 1]) (rest := []) (mc' := 0) (ms' := 0) (dK D_Mo_setAd_0 12 rfl) K_Mo_125 (fitK rfl) (ltK rfl) hd1 rfl (leK rfl) (leK rfl) (leK rfl) (tf_Mo_throwsIf hd1 ht0 (inRk rfl) e_p4) (kcB ?_)
  refine vg_ifB_ne (pc := 23) (b := p4.1) (t := 61) (dK D_Mo_setAd_0 13 rfl) rfl (fun hc5 => ?_) (fun hc5 => ?_)
  · replace h := ifP h hc5
    refine vg_iconst (pc := 61) (dK D_Mo_setAd_0 32 rfl) ?_
    exact vg_iretB (pc := 62) (b := false) (dK D_Mo_setAd_0 33 rfl) rfl (leK rfl) (leK rfl) (fun _ => rfl) (by obtain rfl := Option.some.inj h; exact ⟨rfl, rfl⟩)
  · replace h := ifN h hc5
    refine g_aloadn (pc := 26) (i0 := 0) (j := 0) (dK D_Mo_setAd_0 14 rfl) rfl rfl ?_
    refine g_iloadn (pc := 27) (i0 := 3) (j := 3) (dK D_Mo_setAd_0 15 rfl) rfl rfl ?_
    refine vg_i2l (pc := 28) (dK D_Mo_setAd_0 16 rfl) ha3 ?_
    refine vg_lconst (pc := 29) (y := 0) (dK D_Mo_setAd_0 17 rfl) rfl ?_
    refine vg_ldc2 (pc := 30) (y := 2) (dK D_Mo_setAd_0 18 rfl) q_1663 rfl ?_
    refine bnE h (fun p6 e_p6 h => ?_)
    refine vg_cS (pc := 33) (As := [J a3, J 0, J 2]) (rest := [.ref c0]) (mc' := 0) (ms' := 0) (dK D_Mo_setAd_0 19 rfl) K_Mo_67 (fitK rfl) rfl (leK rfl) (leK rfl) (leK rfl) (tf_Mo_inRange (inR_L ha3) (inLk rfl) (inLk rfl) e_p6) (kcB ?_)
    refine vg_ifB_ne (pc := 36) (b := p6) (t := 43) (dK D_Mo_setAd_0 20 rfl) rfl (fun hc7 => ?_) (fun hc7 => ?_)
    · replace h := ifP h hc7
      refine vg_iconst (pc := 43) (dK D_Mo_setAd_0 23 rfl) ?_
      refine vg_iconst (pc := 44) (dK D_Mo_setAd_0 24 rfl) ?_
      refine bnE h (fun p8 e_p8 h => ?_)
      refine vg_cV (pc := 45) (As := [V 0, V 2]) (rest := []) (mc' := 0) (ms' := 0) (dK D_Mo_setAd_0 25 rfl) K_Mo_125 (fitK rfl) (ltK rfl) hc0 rfl (leK rfl) (leK rfl) (leK rfl) (tf_Mo_throwsIf hc0 (inRk rfl) (inRk rfl) e_p8) (kcB ?_)
      refine vg_ifB_ne (pc := 48) (b := p8.1) (t := 61) (dK D_Mo_setAd_0 26 rfl) rfl (fun hc9 => ?_) (fun hc9 => ?_)
      · replace h := ifP h hc9
        refine vg_iconst (pc := 61) (dK D_Mo_setAd_0 32 rfl) ?_
        exact vg_iretB (pc := 62) (b := false) (dK D_Mo_setAd_0 33 rfl) rfl (leK rfl) (leK rfl) (fun _ => rfl) (by obtain rfl := Option.some.inj h; exact ⟨rfl, rfl⟩)
      · replace h := ifN h hc9
        refine g_aloadn (pc := 51) (i0 := 0) (j := 0) (dK D_Mo_setAd_0 27 rfl) rfl rfl ?_
        refine g_iloadn (pc := 52) (i0 := 1) (j := 1) (dK D_Mo_setAd_0 28 rfl) rfl rfl ?_
        refine vg_bipush (pc := 53) (dK D_Mo_setAd_0 29 rfl) rfl ?_
        refine bnE h (fun p10 e_p10 h => ?_)
        refine vg_cV (pc := 55) (As := [V a1, V 6]) (rest := []) (mc' := 0) (ms' := 0) (dK D_Mo_setAd_0 30 rfl) K_Mo_82 (fitK rfl) (ltK rfl) hc0 rfl (leK rfl) (leK rfl) (leK rfl) (tf_Mo_ofAd hc0 ha1 (inRk rfl) e_p10) (kcI (fun h_p10 => ?_))
        refine vg_if_le (pc := 58) (t := 63) (dK D_Mo_setAd_0 31 rfl) rfl h_p10 (fun hc17 => ?_) (fun hc17 => ?_)
        · replace h := ifP h hc17
          refine g_aloadn (pc := 63) (i0 := 0) (j := 0) (dK D_Mo_setAd_0 34 rfl) rfl rfl ?_
          refine bnE h (fun p11 e_p11 h => ?_)
          refine vg_cV (pc := 64) (As := []) (rest := []) (mc' := 0) (ms' := 0) (dK D_Mo_setAd_0 35 rfl) K_Mo_159 (fitK rfl) (ltK rfl) hc0 rfl (leK rfl) (leK rfl) (leK rfl) (tf_Mo_record hc0 e_p11) (kcU ?_)
          refine g_aloadn (pc := 67) (i0 := 0) (j := 0) (dK D_Mo_setAd_0 36 rfl) rfl rfl ?_
          refine g_iloadn (pc := 68) (i0 := 1) (j := 1) (dK D_Mo_setAd_0 37 rfl) rfl rfl ?_
          refine vg_iconst (pc := 69) (dK D_Mo_setAd_0 38 rfl) ?_
          refine g_iloadn (pc := 70) (i0 := 2) (j := 2) (dK D_Mo_setAd_0 39 rfl) rfl rfl ?_
          refine vg_if_eq (pc := 71) (t := 78) (dK D_Mo_setAd_0 40 rfl) rfl ha2 (fun hc16 => ?_) (fun hc16 => ?_)
          · replace h := ifP h hc16
            refine vg_iconst (pc := 78) (dK D_Mo_setAd_0 43 rfl) ?_
            refine bnE h (fun p12 e_p12 h => ?_)
            refine vg_cV (pc := 79) (As := [V a1, V 2, V 0]) (rest := []) (mc' := 0) (ms' := 0) (dK D_Mo_setAd_0 44 rfl) K_Mo_162 (fitK rfl) (ltK rfl) hc0 rfl (leK rfl) (leK rfl) (leK rfl) (tf_Mo_setOfAd hc0 ha1 (inRk rfl) (inRk rfl) e_p12) (kcU ?_)
            refine g_aloadn (pc := 82) (i0 := 0) (j := 0) (dK D_Mo_setAd_0 45 rfl) rfl rfl ?_
            refine g_iloadn (pc := 83) (i0 := 1) (j := 1) (dK D_Mo_setAd_0 46 rfl) rfl rfl ?_
            refine vg_iconst (pc := 84) (dK D_Mo_setAd_0 47 rfl) ?_
            refine g_iloadn (pc := 85) (i0 := 3) (j := 3) (dK D_Mo_setAd_0 48 rfl) rfl rfl ?_
            refine bnE h (fun p13 e_p13 h => ?_)
            refine vg_cV (pc := 86) (As := [V a1, V 3, V a3]) (rest := []) (mc' := 0) (ms' := 0) (dK D_Mo_setAd_0 49 rfl) K_Mo_162 (fitK rfl) (ltK rfl) hc0 rfl (leK rfl) (leK rfl) (leK rfl) (tf_Mo_setOfAd hc0 ha1 (inRk rfl) ha3 e_p13) (kcU ?_)
            refine vg_iconst (pc := 89) (dK D_Mo_setAd_1 0 rfl) ?_
            exact vg_iretB (pc := 90) (b := true) (dK D_Mo_setAd_1 1 rfl) rfl (leK rfl) (leK rfl) (fun _ => rfl) (by obtain rfl := Option.some.inj h; exact ⟨rfl, rfl⟩)
          · replace h := ifN h hc16
            refine vg_iconst (pc := 74) (dK D_Mo_setAd_0 41 rfl) ?_
            refine g_goto (pc := 75) (tgt := 79) (dK D_Mo_setAd_0 42 rfl) rfl ?_
            refine bnE h (fun p14 e_p14 h => ?_)
            refine vg_cV (pc := 79) (As := [V a1, V 2, V 1]) (rest := []) (mc' := 0) (ms' := 0) (dK D_Mo_setAd_0 44 rfl) K_Mo_162 (fitK rfl) (ltK rfl) hc0 rfl (leK rfl) (leK rfl) (leK rfl) (tf_Mo_setOfAd hc0 ha1 (inRk rfl) (inRk rfl) e_p14) (kcU ?_)
            refine g_aloadn (pc := 82) (i0 := 0) (j := 0) (dK D_Mo_setAd_0 45 rfl) rfl rfl ?_
            refine g_iloadn (pc := 83) (i0 := 1) (j := 1) (dK D_Mo_setAd_0 46 rfl) rfl rfl ?_
            refine vg_iconst (pc := 84) (dK D_Mo_setAd_0 47 rfl) ?_
            refine g_iloadn (pc := 85) (i0 := 3) (j := 3) (dK D_Mo_setAd_0 48 rfl) rfl rfl ?_
            refine bnE h (fun p15 e_p15 h => ?_)
            refine vg_cV (pc := 86) (As := [V a1, V 3, V a3]) (rest := []) (mc' := 0) (ms' := 0) (dK D_Mo_setAd_0 49 rfl) K_Mo_162 (fitK rfl) (ltK rfl) hc0 rfl (leK rfl) (leK rfl) (leK rfl) (tf_Mo_setOfAd hc0 ha1 (inRk rfl) ha3 e_p15) (kcU ?_)
            refine vg_iconst (pc := 89) (dK D_Mo_setAd_1 0 rfl) ?_
            exact vg_iretB (pc := 90) (b := true) (dK D_Mo_setAd_1 1 rfl) rfl (leK rfl) (leK rfl) (fun _ => rfl) (by obtain rfl := Option.some.inj h; exact ⟨rfl, rfl⟩)
        · replace h := ifN h hc17
          refine vg_iconst (pc := 61) (dK D_Mo_setAd_0 32 rfl) ?_
          exact vg_iretB (pc := 62) (b := false) (dK D_Mo_setAd_0 33 rfl) rfl (leK rfl) (leK rfl) (fun _ => rfl) (by obtain rfl := Option.some.inj h; exact ⟨rfl, rfl⟩)
    · replace h := ifN h hc7
      refine vg_iconst (pc := 39) (dK D_Mo_setAd_0 21 rfl) ?_
      refine g_goto (pc := 40) (tgt := 44) (dK D_Mo_setAd_0 22 rfl) rfl ?_
      refine vg_iconst (pc := 44) (dK D_Mo_setAd_0 24 rfl) ?_
      refine bnE h (fun p18 e_p18 h => ?_)
      refine vg_cV (pc := 45) (As := [V 1, V 2]) (rest := []) (mc' := 0) (ms' := 0) (dK D_Mo_setAd_0 25 rfl) K_Mo_125 (fitK rfl) (ltK rfl) hc0 rfl (leK rfl) (leK rfl) (leK rfl) (tf_Mo_throwsIf hc0 (inRk rfl) (inRk rfl) e_p18) (kcB ?_)
      refine vg_ifB_ne (pc := 48) (b := p18.1) (t := 61) (dK D_Mo_setAd_0 26 rfl) rfl (fun hc19 => ?_) (fun hc19 => ?_)
      · replace h := ifP h hc19
        refine vg_iconst (pc := 61) (dK D_Mo_setAd_0 32 rfl) ?_
        exact vg_iretB (pc := 62) (b := false) (dK D_Mo_setAd_0 33 rfl) rfl (leK rfl) (leK rfl) (fun _ => rfl) (by obtain rfl := Option.some.inj h; exact ⟨rfl, rfl⟩)
      · replace h := ifN h hc19
        refine g_aloadn (pc := 51) (i0 := 0) (j := 0) (dK D_Mo_setAd_0 27 rfl) rfl rfl ?_
        refine g_iloadn (pc := 52) (i0 := 1) (j := 1) (dK D_Mo_setAd_0 28 rfl) rfl rfl ?_
        refine vg_bipush (pc := 53) (dK D_Mo_setAd_0 29 rfl) rfl ?_
        refine bnE h (fun p20 e_p20 h => ?_)
        refine vg_cV (pc := 55) (As := [V a1, V 6]) (rest := []) (mc' := 0) (ms' := 0) (dK D_Mo_setAd_0 30 rfl) K_Mo_82 (fitK rfl) (ltK rfl) hc0 rfl (leK rfl) (leK rfl) (leK rfl) (tf_Mo_ofAd hc0 ha1 (inRk rfl) e_p20) (kcI (fun h_p20 => ?_))
        refine vg_if_le (pc := 58) (t := 63) (dK D_Mo_setAd_0 31 rfl) rfl h_p20 (fun hc27 => ?_) (fun hc27 => ?_)
        · replace h := ifP h hc27
          refine g_aloadn (pc := 63) (i0 := 0) (j := 0) (dK D_Mo_setAd_0 34 rfl) rfl rfl ?_
          refine bnE h (fun p21 e_p21 h => ?_)
          refine vg_cV (pc := 64) (As := []) (rest := []) (mc' := 0) (ms' := 0) (dK D_Mo_setAd_0 35 rfl) K_Mo_159 (fitK rfl) (ltK rfl) hc0 rfl (leK rfl) (leK rfl) (leK rfl) (tf_Mo_record hc0 e_p21) (kcU ?_)
          refine g_aloadn (pc := 67) (i0 := 0) (j := 0) (dK D_Mo_setAd_0 36 rfl) rfl rfl ?_
          refine g_iloadn (pc := 68) (i0 := 1) (j := 1) (dK D_Mo_setAd_0 37 rfl) rfl rfl ?_
          refine vg_iconst (pc := 69) (dK D_Mo_setAd_0 38 rfl) ?_
          refine g_iloadn (pc := 70) (i0 := 2) (j := 2) (dK D_Mo_setAd_0 39 rfl) rfl rfl ?_
          refine vg_if_eq (pc := 71) (t := 78) (dK D_Mo_setAd_0 40 rfl) rfl ha2 (fun hc26 => ?_) (fun hc26 => ?_)
          · replace h := ifP h hc26
            refine vg_iconst (pc := 78) (dK D_Mo_setAd_0 43 rfl) ?_
            refine bnE h (fun p22 e_p22 h => ?_)
            refine vg_cV (pc := 79) (As := [V a1, V 2, V 0]) (rest := []) (mc' := 0) (ms' := 0) (dK D_Mo_setAd_0 44 rfl) K_Mo_162 (fitK rfl) (ltK rfl) hc0 rfl (leK rfl) (leK rfl) (leK rfl) (tf_Mo_setOfAd hc0 ha1 (inRk rfl) (inRk rfl) e_p22) (kcU ?_)
            refine g_aloadn (pc := 82) (i0 := 0) (j := 0) (dK D_Mo_setAd_0 45 rfl) rfl rfl ?_
            refine g_iloadn (pc := 83) (i0 := 1) (j := 1) (dK D_Mo_setAd_0 46 rfl) rfl rfl ?_
            refine vg_iconst (pc := 84) (dK D_Mo_setAd_0 47 rfl) ?_
            refine g_iloadn (pc := 85) (i0 := 3) (j := 3) (dK D_Mo_setAd_0 48 rfl) rfl rfl ?_
            refine bnE h (fun p23 e_p23 h => ?_)
            refine vg_cV (pc := 86) (As := [V a1, V 3, V a3]) (rest := []) (mc' := 0) (ms' := 0) (dK D_Mo_setAd_0 49 rfl) K_Mo_162 (fitK rfl) (ltK rfl) hc0 rfl (leK rfl) (leK rfl) (leK rfl) (tf_Mo_setOfAd hc0 ha1 (inRk rfl) ha3 e_p23) (kcU ?_)
            refine vg_iconst (pc := 89) (dK D_Mo_setAd_1 0 rfl) ?_
            exact vg_iretB (pc := 90) (b := true) (dK D_Mo_setAd_1 1 rfl) rfl (leK rfl) (leK rfl) (fun _ => rfl) (by obtain rfl := Option.some.inj h; exact ⟨rfl, rfl⟩)
          · replace h := ifN h hc26
            refine vg_iconst (pc := 74) (dK D_Mo_setAd_0 41 rfl) ?_
            refine g_goto (pc := 75) (tgt := 79) (dK D_Mo_setAd_0 42 rfl) rfl ?_
            refine bnE h (fun p24 e_p24 h => ?_)
            refine vg_cV (pc := 79) (As := [V a1, V 2, V 1]) (rest := []) (mc' := 0) (ms' := 0) (dK D_Mo_setAd_0 44 rfl) K_Mo_162 (fitK rfl) (ltK rfl) hc0 rfl (leK rfl) (leK rfl) (leK rfl) (tf_Mo_setOfAd hc0 ha1 (inRk rfl) (inRk rfl) e_p24) (kcU ?_)
            refine g_aloadn (pc := 82) (i0 := 0) (j := 0) (dK D_Mo_setAd_0 45 rfl) rfl rfl ?_
            refine g_iloadn (pc := 83) (i0 := 1) (j := 1) (dK D_Mo_setAd_0 46 rfl) rfl rfl ?_
            refine vg_iconst (pc := 84) (dK D_Mo_setAd_0 47 rfl) ?_
            refine g_iloadn (pc := 85) (i0 := 3) (j := 3) (dK D_Mo_setAd_0 48 rfl) rfl rfl ?_
            refine bnE h (fun p25 e_p25 h => ?_)
            refine vg_cV (pc := 86) (As := [V a1, V 3, V a3]) (rest := []) (mc' := 0) (ms' := 0) (dK D_Mo_setAd_0 49 rfl) K_Mo_162 (fitK rfl) (ltK rfl) hc0 rfl (leK rfl) (leK rfl) (leK rfl) (tf_Mo_setOfAd hc0 ha1 (inRk rfl) ha3 e_p25) (kcU ?_)
            refine vg_iconst (pc := 89) (dK D_Mo_setAd_1 0 rfl) ?_
            exact vg_iretB (pc := 90) (b := true) (dK D_Mo_setAd_1 1 rfl) rfl (leK rfl) (leK rfl) (fun _ => rfl) (by obtain rfl := Option.some.inj h; exact ⟨rfl, rfl⟩)
        · replace h := ifN h hc27
          refine vg_iconst (pc := 61) (dK D_Mo_setAd_0 32 rfl) ?_
          exact vg_iretB (pc := 62) (b := false) (dK D_Mo_setAd_0 33 rfl) rfl (leK rfl) (leK rfl) (fun _ => rfl) (by obtain rfl := Option.some.inj h; exact ⟨rfl, rfl⟩)
def fn_Mo_setAd (c0 : Nat) (a1 : Int) (a2 : Int) (a3 : Int) (S : St) : Option (Bool × St) := nm (u S c0 4 0) fun S1 => bnO (fn_Mo_isAd c0 a1 S1) fun p2 => if p2 = true then (jf_Mo_setAd_19 c0 a1 a2 a3 0 c0 S1) else (jf_Mo_setAd_19 c0 a1 a2 a3 1 c0 S1)
theorem tf_Mo_setAd {E : EV} {X : XT} {c0 : Nat} (hc0 : HC X 11 c0) {a1 : Int} (ha1 : inR a1) {a2 : Int} (ha2 : inR a2) {a3 : Int} (ha3 : inR a3) {S : St} {q : Bool × St} (h : fn_Mo_setAd c0 a1 a2 a3 S = some q) : Ev E M_Mo_setAd [.ref c0, V a1, V a2, V a3] (WX X S) 0 0 (KB X q.1 q.2) := by
  refine Ev.of pn_Mo rfl (leK rfl) ?_
  show Go E M_Mo_setAd 0 0 0 [(0, .ref c0), (1, V a1), (2, V a2), (3, V a3)] [] (WX X S) 0 0 (KB X q.1 q.2)
  unfold fn_Mo_setAd at h
  refine g_aloadn (pc := 0) (i0 := 0) (j := 0) (dK D_Mo_setAd_0 0 rfl) rfl rfl ?_
  refine vg_iconst (pc := 1) (dK D_Mo_setAd_0 1 rfl) ?_
  refine nmE h (fun S1 e_S1 h => ?_)
  refine vg_putI (pc := 2) (ci := 11) (f := 4) (z := 0) (dK D_Mo_setAd_0 2 rfl) q_1446 hc0 (ltK rfl) (ltK rfl) rfl rfl e_S1 ?_
  refine g_aloadn (pc := 5) (i0 := 0) (j := 0) (dK D_Mo_setAd_0 3 rfl) rfl rfl ?_
  refine g_aloadn (pc := 6) (i0 := 0) (j := 0) (dK D_Mo_setAd_0 4 rfl) rfl rfl ?_
  refine g_iloadn (pc := 7) (i0 := 1) (j := 1) (dK D_Mo_setAd_0 5 rfl) rfl rfl ?_
  refine bnE h (fun p2 e_p2 h => ?_)
  refine vg_cV (pc := 8) (As := [V a1]) (rest := [.ref c0]) (mc' := 0) (ms' := 0) (dK D_Mo_setAd_0 6 rfl) K_Mo_122 (fitK rfl) (ltK rfl) hc0 rfl (leK rfl) (leK rfl) (leK rfl) (tf_Mo_isAd hc0 ha1 e_p2) (kcB ?_)
  refine vg_ifB_ne (pc := 11) (b := p2) (t := 18) (dK D_Mo_setAd_0 7 rfl) rfl (fun hc3 => ?_) (fun hc3 => ?_)
  · replace h := ifP h hc3
    refine vg_iconst (pc := 18) (dK D_Mo_setAd_0 10 rfl) ?_
    exact tj_Mo_setAd_19 hc0 ha1 ha2 ha3 (inRk rfl) hc0 h
  · replace h := ifN h hc3
    refine vg_iconst (pc := 14) (dK D_Mo_setAd_0 8 rfl) ?_
    refine g_goto (pc := 15) (tgt := 19) (dK D_Mo_setAd_0 9 rfl) rfl ?_
    exact tj_Mo_setAd_19 hc0 ha1 ha2 ha3 (inRk rfl) hc0 h
def jf_Mo_setPrice_19 (c0 : Nat) (a1 : Int) (a2 : Int) (t0 : Int) (d1 : Nat) (S : St) : Option (Int × St) := bnO (fn_Mo_throwsIf d1 t0 1 S) fun p4 => if p4.1 = true then (some (0, p4.2)) else (bnO (fn_Mo_inRange a2 1 999 p4.2) fun p6 => if p6 = true then (bnO (fn_Mo_throwsIf c0 0 2 p4.2) fun p8 => if p8.1 = true then (some (0, p8.2)) else (bnO (fn_Mo_ofAd c0 a1 4 p8.2) fun p10 => bnO (fn_Mo_record c0 p8.2) fun p11 => bnO (fn_Mo_setOfAd c0 a1 4 a2 p11) fun p12 => some (p10, p12))) else (bnO (fn_Mo_throwsIf c0 1 2 p4.2) fun p13 => if p13.1 = true then (some (0, p13.2)) else (bnO (fn_Mo_ofAd c0 a1 4 p13.2) fun p15 => bnO (fn_Mo_record c0 p13.2) fun p16 => bnO (fn_Mo_setOfAd c0 a1 4 a2 p16) fun p17 => some (p15, p17))))
theorem tj_Mo_setPrice_19 {E : EV} {X : XT} {c0 : Nat} (hc0 : HC X 11 c0) {a1 : Int} (ha1 : inR a1) {a2 : Int} (ha2 : inR a2) {t0 : Int} (ht0 : inR t0) {d1 : Nat} (hd1 : HC X 11 d1) {S : St} {q : Int × St} (h : jf_Mo_setPrice_19 c0 a1 a2 t0 d1 S = some q) : Go E M_Mo_setPrice 0 0 19 [(0, .ref c0), (1, V a1), (2, V a2)] [V t0, .ref d1] (WX X S) 0 0 (KI X q.1 q.2) := by
  unfold jf_Mo_setPrice_19 at h
  refine vg_iconst (pc := 19) (dK D_Mo_setPrice 11 rfl) ?_
  refine bnE h (fun p4 e_p4 h => ?_)
  refine vg_cV (pc := 20) (As := [V t0, V 1]) (rest := []) (mc' := 0) (ms' := 0) (dK D_Mo_setPrice 12 rfl) K_Mo_125 (fitK rfl) (ltK rfl) hd1 rfl (leK rfl) (leK rfl) (leK rfl) (tf_Mo_throwsIf hd1 ht0 (inRk rfl) e_p4) (kcB ?_)
  refine vg_ifB_ne (pc := 23) (b := p4.1) (t := 51) (dK D_Mo_setPrice 13 rfl) rfl (fun hc5 => ?_) (fun hc5 => ?_)
  · replace h := ifP h hc5
    refine vg_iconst (pc := 51) (dK D_Mo_setPrice 27 rfl) ?_
    exact vg_iretI (pc := 52) (r := 0) (dK D_Mo_setPrice 28 rfl) rfl (leK rfl) (leK rfl) (fun _ => rfl) (by obtain rfl := Option.some.inj h; exact ⟨rfl, (inRk rfl), rfl⟩)
  · replace h := ifN h hc5
    refine g_aloadn (pc := 26) (i0 := 0) (j := 0) (dK D_Mo_setPrice 14 rfl) rfl rfl ?_
    refine g_iloadn (pc := 27) (i0 := 2) (j := 2) (dK D_Mo_setPrice 15 rfl) rfl rfl ?_
    refine vg_i2l (pc := 28) (dK D_Mo_setPrice 16 rfl) ha2 ?_
    refine vg_lconst (pc := 29) (y := 1) (dK D_Mo_setPrice 17 rfl) rfl ?_
    refine vg_ldc2 (pc := 30) (y := 999) (dK D_Mo_setPrice 18 rfl) q_1649 rfl ?_
    refine bnE h (fun p6 e_p6 h => ?_)
    refine vg_cS (pc := 33) (As := [J a2, J 1, J 999]) (rest := [.ref c0]) (mc' := 0) (ms' := 0) (dK D_Mo_setPrice 19 rfl) K_Mo_67 (fitK rfl) rfl (leK rfl) (leK rfl) (leK rfl) (tf_Mo_inRange (inR_L ha2) (inLk rfl) (inLk rfl) e_p6) (kcB ?_)
    refine vg_ifB_ne (pc := 36) (b := p6) (t := 43) (dK D_Mo_setPrice 20 rfl) rfl (fun hc7 => ?_) (fun hc7 => ?_)
    · replace h := ifP h hc7
      refine vg_iconst (pc := 43) (dK D_Mo_setPrice 23 rfl) ?_
      refine vg_iconst (pc := 44) (dK D_Mo_setPrice 24 rfl) ?_
      refine bnE h (fun p8 e_p8 h => ?_)
      refine vg_cV (pc := 45) (As := [V 0, V 2]) (rest := []) (mc' := 0) (ms' := 0) (dK D_Mo_setPrice 25 rfl) K_Mo_125 (fitK rfl) (ltK rfl) hc0 rfl (leK rfl) (leK rfl) (leK rfl) (tf_Mo_throwsIf hc0 (inRk rfl) (inRk rfl) e_p8) (kcB ?_)
      refine vg_ifB_eq (pc := 48) (b := p8.1) (t := 53) (dK D_Mo_setPrice 26 rfl) rfl (fun hc9 => ?_) (fun hc9 => ?_)
      · replace h := ifP h hc9
        refine vg_iconst (pc := 51) (dK D_Mo_setPrice 27 rfl) ?_
        exact vg_iretI (pc := 52) (r := 0) (dK D_Mo_setPrice 28 rfl) rfl (leK rfl) (leK rfl) (fun _ => rfl) (by obtain rfl := Option.some.inj h; exact ⟨rfl, (inRk rfl), rfl⟩)
      · replace h := ifN h hc9
        refine g_aloadn (pc := 53) (i0 := 0) (j := 0) (dK D_Mo_setPrice 29 rfl) rfl rfl ?_
        refine g_iloadn (pc := 54) (i0 := 1) (j := 1) (dK D_Mo_setPrice 30 rfl) rfl rfl ?_
        refine vg_iconst (pc := 55) (dK D_Mo_setPrice 31 rfl) ?_
        refine bnE h (fun p10 e_p10 h => ?_)
        refine vg_cV (pc := 56) (As := [V a1, V 4]) (rest := []) (mc' := 0) (ms' := 0) (dK D_Mo_setPrice 32 rfl) K_Mo_82 (fitK rfl) (ltK rfl) hc0 rfl (leK rfl) (leK rfl) (leK rfl) (tf_Mo_ofAd hc0 ha1 (inRk rfl) e_p10) (kcI (fun h_p10 => ?_))
        refine g_istoren (pc := 59) (i0 := 3) (ls2 := [(3, V p10), (0, .ref c0), (1, V a1), (2, V a2)]) (dK D_Mo_setPrice 33 rfl) rfl (ltK rfl) rfl ?_
        refine g_aloadn (pc := 60) (i0 := 0) (j := 1) (dK D_Mo_setPrice 34 rfl) rfl rfl ?_
        refine bnE h (fun p11 e_p11 h => ?_)
        refine vg_cV (pc := 61) (As := []) (rest := []) (mc' := 0) (ms' := 0) (dK D_Mo_setPrice 35 rfl) K_Mo_159 (fitK rfl) (ltK rfl) hc0 rfl (leK rfl) (leK rfl) (leK rfl) (tf_Mo_record hc0 e_p11) (kcU ?_)
        refine g_aloadn (pc := 64) (i0 := 0) (j := 1) (dK D_Mo_setPrice 36 rfl) rfl rfl ?_
        refine g_iloadn (pc := 65) (i0 := 1) (j := 2) (dK D_Mo_setPrice 37 rfl) rfl rfl ?_
        refine vg_iconst (pc := 66) (dK D_Mo_setPrice 38 rfl) ?_
        refine g_iloadn (pc := 67) (i0 := 2) (j := 3) (dK D_Mo_setPrice 39 rfl) rfl rfl ?_
        refine bnE h (fun p12 e_p12 h => ?_)
        refine vg_cV (pc := 68) (As := [V a1, V 4, V a2]) (rest := []) (mc' := 0) (ms' := 0) (dK D_Mo_setPrice 40 rfl) K_Mo_162 (fitK rfl) (ltK rfl) hc0 rfl (leK rfl) (leK rfl) (leK rfl) (tf_Mo_setOfAd hc0 ha1 (inRk rfl) ha2 e_p12) (kcU ?_)
        refine g_iloadn (pc := 71) (i0 := 3) (j := 0) (dK D_Mo_setPrice 41 rfl) rfl rfl ?_
        exact vg_iretI (pc := 72) (r := p10) (dK D_Mo_setPrice 42 rfl) rfl (leK rfl) (leK rfl) (fun _ => rfl) (by obtain rfl := Option.some.inj h; exact ⟨rfl, h_p10, rfl⟩)
    · replace h := ifN h hc7
      refine vg_iconst (pc := 39) (dK D_Mo_setPrice 21 rfl) ?_
      refine g_goto (pc := 40) (tgt := 44) (dK D_Mo_setPrice 22 rfl) rfl ?_
      refine vg_iconst (pc := 44) (dK D_Mo_setPrice 24 rfl) ?_
      refine bnE h (fun p13 e_p13 h => ?_)
      refine vg_cV (pc := 45) (As := [V 1, V 2]) (rest := []) (mc' := 0) (ms' := 0) (dK D_Mo_setPrice 25 rfl) K_Mo_125 (fitK rfl) (ltK rfl) hc0 rfl (leK rfl) (leK rfl) (leK rfl) (tf_Mo_throwsIf hc0 (inRk rfl) (inRk rfl) e_p13) (kcB ?_)
      refine vg_ifB_eq (pc := 48) (b := p13.1) (t := 53) (dK D_Mo_setPrice 26 rfl) rfl (fun hc14 => ?_) (fun hc14 => ?_)
      · replace h := ifP h hc14
        refine vg_iconst (pc := 51) (dK D_Mo_setPrice 27 rfl) ?_
        exact vg_iretI (pc := 52) (r := 0) (dK D_Mo_setPrice 28 rfl) rfl (leK rfl) (leK rfl) (fun _ => rfl) (by obtain rfl := Option.some.inj h; exact ⟨rfl, (inRk rfl), rfl⟩)
      · replace h := ifN h hc14
        refine g_aloadn (pc := 53) (i0 := 0) (j := 0) (dK D_Mo_setPrice 29 rfl) rfl rfl ?_
        refine g_iloadn (pc := 54) (i0 := 1) (j := 1) (dK D_Mo_setPrice 30 rfl) rfl rfl ?_
        refine vg_iconst (pc := 55) (dK D_Mo_setPrice 31 rfl) ?_
        refine bnE h (fun p15 e_p15 h => ?_)
        refine vg_cV (pc := 56) (As := [V a1, V 4]) (rest := []) (mc' := 0) (ms' := 0) (dK D_Mo_setPrice 32 rfl) K_Mo_82 (fitK rfl) (ltK rfl) hc0 rfl (leK rfl) (leK rfl) (leK rfl) (tf_Mo_ofAd hc0 ha1 (inRk rfl) e_p15) (kcI (fun h_p15 => ?_))
        refine g_istoren (pc := 59) (i0 := 3) (ls2 := [(3, V p15), (0, .ref c0), (1, V a1), (2, V a2)]) (dK D_Mo_setPrice 33 rfl) rfl (ltK rfl) rfl ?_
        refine g_aloadn (pc := 60) (i0 := 0) (j := 1) (dK D_Mo_setPrice 34 rfl) rfl rfl ?_
        refine bnE h (fun p16 e_p16 h => ?_)
        refine vg_cV (pc := 61) (As := []) (rest := []) (mc' := 0) (ms' := 0) (dK D_Mo_setPrice 35 rfl) K_Mo_159 (fitK rfl) (ltK rfl) hc0 rfl (leK rfl) (leK rfl) (leK rfl) (tf_Mo_record hc0 e_p16) (kcU ?_)
        refine g_aloadn (pc := 64) (i0 := 0) (j := 1) (dK D_Mo_setPrice 36 rfl) rfl rfl ?_
        refine g_iloadn (pc := 65) (i0 := 1) (j := 2) (dK D_Mo_setPrice 37 rfl) rfl rfl ?_
        refine vg_iconst (pc := 66) (dK D_Mo_setPrice 38 rfl) ?_
        refine g_iloadn (pc := 67) (i0 := 2) (j := 3) (dK D_Mo_setPrice 39 rfl) rfl rfl ?_
        refine bnE h (fun p17 e_p17 h => ?_)
        refine vg_cV (pc := 68) (As := [V a1, V 4, V a2]) (rest := []) (mc' := 0) (ms' := 0) (dK D_Mo_setPrice 40 rfl) K_Mo_162 (fitK rfl) (ltK rfl) hc0 rfl (leK rfl) (leK rfl) (leK rfl) (tf_Mo_setOfAd hc0 ha1 (inRk rfl) ha2 e_p17) (kcU ?_)
        refine g_iloadn (pc := 71) (i0 := 3) (j := 0) (dK D_Mo_setPrice 41 rfl) rfl rfl ?_
        exact vg_iretI (pc := 72) (r := p15) (dK D_Mo_setPrice 42 rfl) rfl (leK rfl) (leK rfl) (fun _ => rfl) (by obtain rfl := Option.some.inj h; exact ⟨rfl, h_p15, rfl⟩)
def fn_Mo_setPrice (c0 : Nat) (a1 : Int) (a2 : Int) (S : St) : Option (Int × St) := nm (u S c0 4 0) fun S1 => bnO (fn_Mo_isAd c0 a1 S1) fun p2 => if p2 = true then (jf_Mo_setPrice_19 c0 a1 a2 0 c0 S1) else (jf_Mo_setPrice_19 c0 a1 a2 1 c0 S1)
theorem tf_Mo_setPrice {E : EV} {X : XT} {c0 : Nat} (hc0 : HC X 11 c0) {a1 : Int} (ha1 : inR a1) {a2 : Int} (ha2 : inR a2) {S : St} {q : Int × St} (h : fn_Mo_setPrice c0 a1 a2 S = some q) : Ev E M_Mo_setPrice [.ref c0, V a1, V a2] (WX X S) 0 0 (KI X q.1 q.2) := by
  refine Ev.of pn_Mo rfl (leK rfl) ?_
  show Go E M_Mo_setPrice 0 0 0 [(0, .ref c0), (1, V a1), (2, V a2)] [] (WX X S) 0 0 (KI X q.1 q.2)
  unfold fn_Mo_setPrice at h
  refine g_aloadn (pc := 0) (i0 := 0) (j := 0) (dK D_Mo_setPrice 0 rfl) rfl rfl ?_
  refine vg_iconst (pc := 1) (dK D_Mo_setPrice 1 rfl) ?_
  refine nmE h (fun S1 e_S1 h => ?_)
  refine vg_putI (pc := 2) (ci := 11) (f := 4) (z := 0) (dK D_Mo_setPrice 2 rfl) q_1446 hc0 (ltK rfl) (ltK rfl) rfl rfl e_S1 ?_
  refine g_aloadn (pc := 5) (i0 := 0) (j := 0) (dK D_Mo_setPrice 3 rfl) rfl rfl ?_
  refine g_aloadn (pc := 6) (i0 := 0) (j := 0) (dK D_Mo_setPrice 4 rfl) rfl rfl ?_
  refine g_iloadn (pc := 7) (i0 := 1) (j := 1) (dK D_Mo_setPrice 5 rfl) rfl rfl ?_
  refine bnE h (fun p2 e_p2 h => ?_)
  refine vg_cV (pc := 8) (As := [V a1]) (rest := [.ref c0]) (mc' := 0) (ms' := 0) (dK D_Mo_setPrice 6 rfl) K_Mo_122 (fitK rfl) (ltK rfl) hc0 rfl (leK rfl) (leK rfl) (leK rfl) (tf_Mo_isAd hc0 ha1 e_p2) (kcB ?_)
  refine vg_ifB_ne (pc := 11) (b := p2) (t := 18) (dK D_Mo_setPrice 7 rfl) rfl (fun hc3 => ?_) (fun hc3 => ?_)
  · replace h := ifP h hc3
    refine vg_iconst (pc := 18) (dK D_Mo_setPrice 10 rfl) ?_
    exact tj_Mo_setPrice_19 hc0 ha1 ha2 (inRk rfl) hc0 h
  · replace h := ifN h hc3
    refine vg_iconst (pc := 14) (dK D_Mo_setPrice 8 rfl) ?_
    refine g_goto (pc := 15) (tgt := 19) (dK D_Mo_setPrice 9 rfl) rfl ?_
    exact tj_Mo_setPrice_19 hc0 ha1 ha2 (inRk rfl) hc0 h
def fn_Mo_toldPage (a0 : Int) (S : St) : Option (Int) := if a0 ≤ 0 then (some (-1)) else (some a0)
theorem tf_Mo_toldPage {E : EV} {X : XT} {a0 : Int} (ha0 : inR a0) {S : St} {q : Int} (h : fn_Mo_toldPage a0 S = some q) : Ev E M_Mo_toldPage [V a0] (WX X S) 0 0 (KI X q S) := by
  refine Ev.of pn_Mo rfl (leK rfl) ?_
  show Go E M_Mo_toldPage 0 0 0 [(0, V a0)] [] (WX X S) 0 0 (KI X q S)
  unfold fn_Mo_toldPage at h
  refine g_iloadn (pc := 0) (i0 := 0) (j := 0) (dK D_Mo_toldPage 0 rfl) rfl rfl ?_
  refine vg_if_le (pc := 1) (t := 8) (dK D_Mo_toldPage 1 rfl) rfl ha0 (fun hc1 => ?_) (fun hc1 => ?_)
  · replace h := ifP h hc1
    refine vg_iconst (pc := 8) (dK D_Mo_toldPage 4 rfl) ?_
    exact vg_iretI (pc := 9) (r := (-1)) (dK D_Mo_toldPage 5 rfl) rfl (leK rfl) (leK rfl) (fun _ => rfl) (by obtain rfl := Option.some.inj h; exact ⟨rfl, (inRk rfl), rfl⟩)
  · replace h := ifN h hc1
    refine g_iloadn (pc := 4) (i0 := 0) (j := 0) (dK D_Mo_toldPage 2 rfl) rfl rfl ?_
    refine g_goto (pc := 5) (tgt := 9) (dK D_Mo_toldPage 3 rfl) rfl ?_
    exact vg_iretI (pc := 9) (r := a0) (dK D_Mo_toldPage 5 rfl) rfl (leK rfl) (leK rfl) (fun _ => rfl) (by obtain rfl := Option.some.inj h; exact ⟨rfl, ha0, rfl⟩)
def fn_Mo_isAdLate (c0 : Nat) (a1 : Int) (S : St) : Option (Bool) := bnO (fn_Mo_ofAd c0 a1 5 S) fun p1 => if p1 ≤ (g S (tgt c0 0) 0) then (some false) else (some true)
theorem tf_Mo_isAdLate {E : EV} {X : XT} {c0 : Nat} (hc0 : HC X 11 c0) {a1 : Int} (ha1 : inR a1) {S : St} {q : Bool} (h : fn_Mo_isAdLate c0 a1 S = some q) : Ev E M_Mo_isAdLate [.ref c0, V a1] (WX X S) 0 0 (KB X q S) := by
  refine Ev.of pn_Mo rfl (leK rfl) ?_
  show Go E M_Mo_isAdLate 0 0 0 [(0, .ref c0), (1, V a1)] [] (WX X S) 0 0 (KB X q S)
  unfold fn_Mo_isAdLate at h
  refine g_aloadn (pc := 0) (i0 := 0) (j := 0) (dK D_Mo_isAdLate 0 rfl) rfl rfl ?_
  refine vg_getA (pc := 1) (ci := 11) (f := 0) (dK D_Mo_isAdLate 1 rfl) q_1442 hc0 (ltK rfl) (ltK rfl) rfl ?_
  refine vg_iconst (pc := 4) (dK D_Mo_isAdLate 2 rfl) ?_
  refine vg_iaload (pc := 5) (j := 0) (dK D_Mo_isAdLate 3 rfl) (hw_11_0 hc0) rfl ⟨by decide, by decide⟩ rfl ?_
  refine g_aloadn (pc := 6) (i0 := 0) (j := 0) (dK D_Mo_isAdLate 4 rfl) rfl rfl ?_
  refine g_iloadn (pc := 7) (i0 := 1) (j := 1) (dK D_Mo_isAdLate 5 rfl) rfl rfl ?_
  refine vg_iconst (pc := 8) (dK D_Mo_isAdLate 6 rfl) ?_
  refine bnE h (fun p1 e_p1 h => ?_)
  refine vg_cV (pc := 9) (As := [V a1, V 5]) (rest := [V (g S (tgt c0 0) 0)]) (mc' := 0) (ms' := 0) (dK D_Mo_isAdLate 7 rfl) K_Mo_82 (fitK rfl) (ltK rfl) hc0 rfl (leK rfl) (leK rfl) (leK rfl) (tf_Mo_ofAd hc0 ha1 (inRk rfl) e_p1) (kcI (fun h_p1 => ?_))
  refine vg_icmp_ge (pc := 12) (t := 19) (dK D_Mo_isAdLate 8 rfl) rfl (g_in _ _ _) h_p1 (fun hc2 => ?_) (fun hc2 => ?_)
  · replace h := ifP h hc2
    refine vg_iconst (pc := 19) (dK D_Mo_isAdLate 11 rfl) ?_
    exact vg_iretB (pc := 20) (b := false) (dK D_Mo_isAdLate 12 rfl) rfl (leK rfl) (leK rfl) (fun _ => rfl) (by obtain rfl := Option.some.inj h; exact ⟨rfl, rfl⟩)
  · replace h := ifN h hc2
    refine vg_iconst (pc := 15) (dK D_Mo_isAdLate 9 rfl) ?_
    refine g_goto (pc := 16) (tgt := 20) (dK D_Mo_isAdLate 10 rfl) rfl ?_
    exact vg_iretB (pc := 20) (b := true) (dK D_Mo_isAdLate 12 rfl) rfl (leK rfl) (leK rfl) (fun _ => rfl) (by obtain rfl := Option.some.inj h; exact ⟨rfl, rfl⟩)
