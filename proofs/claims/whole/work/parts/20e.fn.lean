def lb_Plan_replaceLateAds_10 (c0 : Nat) (a1 : Int) (c2 : Nat) (go : Int × St → Option (St)) (a3 : Int) (S : St) : Option (St) := if (g S c2 7) ≤ a3 then (some S) else (if 0 ≤ a3 ∧ a3 < 40 then (if (g S (tgt c2 6) a3.toNat) = a1 then (bnO (fn_Plan_isLate c0 (g S (tgt c2 5) a3.toNat) S) fun p3 => if p3 = true then (nm (u S (tgt c2 6) a3.toNat 0) fun S6 => nm (u S6 (tgt c0 0) 7 ((g S6 (tgt c0 0) 7) + (g S6 (tgt c2 4) a3.toNat))) fun S7 => bnO (fn_Standbys_unused (tgt (tgt c0 0) 2) (g S7 (tgt c2 0) a3.toNat) S7) fun p8 => if p8 = (-1) then (nm (wr (a3 + 1)) fun v9 => go (v9, S7)) else (if 0 ≤ p8 ∧ p8 < 8 then (nm (u S7 (tgt (tgt (tgt c0 0) 2) 1) p8.toNat a1) fun S11 => nm (wr (a3 + 1)) fun v12 => go (v12, S11)) else none)) else (nm (wr (a3 + 1)) fun v5 => go (v5, S))) else (nm (wr (a3 + 1)) fun v2 => go (v2, S))) else none)
def lo_Plan_replaceLateAds_10 (c0 : Nat) (a1 : Int) (c2 : Nat) : Nat → Int × St → Option (St) := lp fun go p => lb_Plan_replaceLateAds_10 c0 a1 c2 go p.1 p.2
theorem tl_Plan_replaceLateAds_10 {E : EV} {X : XT} {c0 : Nat} (hc0 : HC X 4 c0) {a1 : Int} (ha1 : inR a1) {c2 : Nat} (hc2 : HC X 0 c2) {K : RK → PS → Prop} {q : St} (hx : Go E M_Plan_replaceLateAds 0 0 110 [] [] (WX X q) 0 0 K) : ∀ n a, lo_Plan_replaceLateAds_10 c0 a1 c2 n a = some q → inR a.1 → Go E M_Plan_replaceLateAds 0 0 10 [(0, .ref c0), (1, V a1), (2, .ref c2), (3, V a.1)] [] (WX X a.2) 0 0 K := by
  refine lp_ind (P := fun a : Int × St => inR a.1 → Go E M_Plan_replaceLateAds 0 0 10 [(0, .ref c0), (1, V a1), (2, .ref c2), (3, V a.1)] [] (WX X a.2) 0 0 K) (fun go ih a h => ?_)
  obtain ⟨a3, S⟩ := a
  intro ha3
  show Go E M_Plan_replaceLateAds 0 0 10 [(0, .ref c0), (1, V a1), (2, .ref c2), (3, V a3)] [] (WX X S) 0 0 K
  replace h : lb_Plan_replaceLateAds_10 c0 a1 c2 go a3 S = some q := h
  unfold lb_Plan_replaceLateAds_10 at h
  refine g_iloadn (pc := 10) (i0 := 3) (j := 3) (dK D_Plan_replaceLateAds_0 6 rfl) rfl rfl ?_
  refine g_aloadn (pc := 11) (i0 := 2) (j := 2) (dK D_Plan_replaceLateAds_0 7 rfl) rfl rfl ?_
  refine vg_getI (pc := 12) (ci := 0) (f := 7) (dK D_Plan_replaceLateAds_0 8 rfl) q_107 hc2 (ltK rfl) (ltK rfl) rfl ?_
  refine vg_icmp_ge (pc := 15) (t := 110) (dK D_Plan_replaceLateAds_0 9 rfl) rfl ha3 (g_in _ _ _) (fun hc15 => ?_) (fun hc15 => ?_)
  · replace h := ifP h hc15
    obtain rfl := Option.some.inj h
    refine gL_weak (ls' := []) sbn ?_
    exact hx 
  · replace h := ifN h hc15
    refine g_aloadn (pc := 18) (i0 := 2) (j := 2) (dK D_Plan_replaceLateAds_0 10 rfl) rfl rfl ?_
    refine vg_getA (pc := 19) (ci := 0) (f := 6) (dK D_Plan_replaceLateAds_0 11 rfl) q_102 hc2 (ltK rfl) (ltK rfl) rfl ?_
    refine g_iloadn (pc := 22) (i0 := 3) (j := 3) (dK D_Plan_replaceLateAds_0 12 rfl) rfl rfl ?_
    refine gdE h (fun hi1 h => ?_)
    refine vg_iaload (pc := 23) (j := a3.toNat) (dK D_Plan_replaceLateAds_0 13 rfl) (hw_0_6 hc2) rfl hi1 rfl ?_
    refine g_iloadn (pc := 24) (i0 := 1) (j := 1) (dK D_Plan_replaceLateAds_0 14 rfl) rfl rfl ?_
    refine vg_icmp_ne (pc := 25) (t := 104) (dK D_Plan_replaceLateAds_0 15 rfl) rfl (g_in _ _ _) ha1 (fun hc14 => ?_) (fun hc14 => ?_)
    · replace h := ifN h hc14
      refine nmE h (fun v2 e_v2 h => ?_)
      refine vg_iinc (pc := 104) (j := 3) (a := a3) (z := 1) (ls2 := [(3, V v2), (0, .ref c0), (1, V a1), (2, .ref c2)]) (dK D_Plan_replaceLateAds_1 7 rfl) rfl e_v2 (ltK rfl) rfl ?_
      refine g_goto (pc := 107) (tgt := 10) (dK D_Plan_replaceLateAds_1 8 rfl) rfl ?_
      refine gL_weak (ls' := [(0, .ref c0), (1, V a1), (2, .ref c2), (3, V v2)]) (sbc 1 rfl (sbc 2 rfl (sbc 3 rfl (sbc 0 rfl sbn)))) ?_
      replace h := ih _ h
      exact h (Vn_in e_v2)
    · replace h := ifP h hc14
      refine g_aloadn (pc := 28) (i0 := 0) (j := 0) (dK D_Plan_replaceLateAds_0 16 rfl) rfl rfl ?_
      refine g_aloadn (pc := 29) (i0 := 2) (j := 2) (dK D_Plan_replaceLateAds_0 17 rfl) rfl rfl ?_
      refine vg_getA (pc := 30) (ci := 0) (f := 5) (dK D_Plan_replaceLateAds_0 18 rfl) q_99 hc2 (ltK rfl) (ltK rfl) rfl ?_
      refine g_iloadn (pc := 33) (i0 := 3) (j := 3) (dK D_Plan_replaceLateAds_0 19 rfl) rfl rfl ?_
      refine vg_iaload (pc := 34) (j := a3.toNat) (dK D_Plan_replaceLateAds_0 20 rfl) (hw_0_5 hc2) rfl hi1 rfl ?_
      refine bnE h (fun p3 e_p3 h => ?_)
      refine vg_cV (pc := 35) (As := [V (g S (tgt c2 5) a3.toNat)]) (rest := []) (mc' := 0) (ms' := 0) (dK D_Plan_replaceLateAds_0 21 rfl) K_Plan_186 (fitK rfl) (ltK rfl) hc0 rfl (leK rfl) (leK rfl) (leK rfl) (tf_Plan_isLate hc0 (g_in _ _ _) e_p3) (kcB ?_)
      refine vg_ifB_eq (pc := 38) (b := p3) (t := 104) (dK D_Plan_replaceLateAds_0 22 rfl) rfl (fun hc4 => ?_) (fun hc4 => ?_)
      · replace h := ifP h hc4
        refine g_aloadn (pc := 41) (i0 := 2) (j := 2) (dK D_Plan_replaceLateAds_0 23 rfl) rfl rfl ?_
        refine vg_getA (pc := 42) (ci := 0) (f := 6) (dK D_Plan_replaceLateAds_0 24 rfl) q_102 hc2 (ltK rfl) (ltK rfl) rfl ?_
        refine g_iloadn (pc := 45) (i0 := 3) (j := 3) (dK D_Plan_replaceLateAds_0 25 rfl) rfl rfl ?_
        refine vg_iconst (pc := 46) (dK D_Plan_replaceLateAds_0 26 rfl) ?_
        refine nmE h (fun S6 e_S6 h => ?_)
        refine vg_iastore (pc := 47) (z := 0) (dK D_Plan_replaceLateAds_0 27 rfl) (hw_0_6 hc2) rfl hi1 rfl e_S6 ?_
        refine g_aloadn (pc := 48) (i0 := 0) (j := 0) (dK D_Plan_replaceLateAds_0 28 rfl) rfl rfl ?_
        refine vg_getO (pc := 49) (ci := 4) (f := 0) (dK D_Plan_replaceLateAds_0 29 rfl) q_290 hc0 (ltK rfl) (ltK rfl) rfl ?_
        refine g_dup (pc := 52) (dK D_Plan_replaceLateAds_0 30 rfl) rfl ?_
        refine vg_getI (pc := 53) (ci := 8) (f := 7) (dK D_Plan_replaceLateAds_0 31 rfl) q_248 (hw_4_0 hc0) (ltK rfl) (ltK rfl) rfl ?_
        refine g_aloadn (pc := 56) (i0 := 2) (j := 2) (dK D_Plan_replaceLateAds_0 32 rfl) rfl rfl ?_
        refine vg_getA (pc := 57) (ci := 0) (f := 4) (dK D_Plan_replaceLateAds_0 33 rfl) q_95 hc2 (ltK rfl) (ltK rfl) rfl ?_
        refine g_iloadn (pc := 60) (i0 := 3) (j := 3) (dK D_Plan_replaceLateAds_0 34 rfl) rfl rfl ?_
        refine vg_iaload (pc := 61) (j := a3.toNat) (dK D_Plan_replaceLateAds_0 35 rfl) (hw_0_4 hc2) rfl hi1 rfl ?_
        refine vg_iadd (pc := 62) (dK D_Plan_replaceLateAds_0 36 rfl) ?_
        refine nmE h (fun S7 e_S7 h => ?_)
        refine vg_putI (pc := 63) (ci := 8) (f := 7) (z := ((g S6 (tgt c0 0) 7) + (g S6 (tgt c2 4) a3.toNat))) (dK D_Plan_replaceLateAds_0 37 rfl) q_248 (hw_4_0 hc0) (ltK rfl) (ltK rfl) rfl rfl e_S7 ?_
        refine g_aloadn (pc := 66) (i0 := 0) (j := 0) (dK D_Plan_replaceLateAds_0 38 rfl) rfl rfl ?_
        refine vg_getO (pc := 67) (ci := 4) (f := 0) (dK D_Plan_replaceLateAds_0 39 rfl) q_290 hc0 (ltK rfl) (ltK rfl) rfl ?_
        refine vg_getO (pc := 70) (ci := 8) (f := 2) (dK D_Plan_replaceLateAds_0 40 rfl) q_231 (hw_4_0 hc0) (ltK rfl) (ltK rfl) rfl ?_
        refine g_aloadn (pc := 73) (i0 := 2) (j := 2) (dK D_Plan_replaceLateAds_0 41 rfl) rfl rfl ?_
        refine vg_getA (pc := 74) (ci := 0) (f := 0) (dK D_Plan_replaceLateAds_0 42 rfl) q_78 hc2 (ltK rfl) (ltK rfl) rfl ?_
        refine g_iloadn (pc := 77) (i0 := 3) (j := 3) (dK D_Plan_replaceLateAds_0 43 rfl) rfl rfl ?_
        refine vg_iaload (pc := 78) (j := a3.toNat) (dK D_Plan_replaceLateAds_0 44 rfl) (hw_0_0 hc2) rfl hi1 rfl ?_
        refine bnE h (fun p8 e_p8 h => ?_)
        refine vg_cV (pc := 79) (As := [V (g S7 (tgt c2 0) a3.toNat)]) (rest := []) (mc' := 0) (ms' := 0) (dK D_Plan_replaceLateAds_0 45 rfl) K_Plan_204 (fitK rfl) (ltK rfl) (hw_8_2 (hw_4_0 hc0)) rfl (leK rfl) (leK rfl) (leK rfl) (tf_Standbys_unused (hw_8_2 (hw_4_0 hc0)) (g_in _ _ _) e_p8) (kcI (fun h_p8 => ?_))
        refine g_istore (pc := 82) (ls2 := [(4, V p8), (0, .ref c0), (1, V a1), (2, .ref c2), (3, V a3)]) (dK D_Plan_replaceLateAds_0 46 rfl) (ltK rfl) rfl ?_
        refine g_iload (pc := 84) (j := 0) (dK D_Plan_replaceLateAds_0 47 rfl) rfl ?_
        refine vg_iconst (pc := 86) (dK D_Plan_replaceLateAds_0 48 rfl) ?_
        refine vg_icmp_eq (pc := 87) (t := 104) (dK D_Plan_replaceLateAds_0 49 rfl) rfl h_p8 (inRk rfl) (fun hc13 => ?_) (fun hc13 => ?_)
        · replace h := ifP h hc13
          refine nmE h (fun v9 e_v9 h => ?_)
          refine vg_iinc (pc := 104) (j := 4) (a := a3) (z := 1) (ls2 := [(3, V v9), (4, V p8), (0, .ref c0), (1, V a1), (2, .ref c2)]) (dK D_Plan_replaceLateAds_1 7 rfl) rfl e_v9 (ltK rfl) rfl ?_
          refine g_goto (pc := 107) (tgt := 10) (dK D_Plan_replaceLateAds_1 8 rfl) rfl ?_
          refine gL_weak (ls' := [(0, .ref c0), (1, V a1), (2, .ref c2), (3, V v9)]) (sbc 2 rfl (sbc 3 rfl (sbc 4 rfl (sbc 0 rfl sbn)))) ?_
          replace h := ih _ h
          exact h (Vn_in e_v9)
        · replace h := ifN h hc13
          refine g_aloadn (pc := 90) (i0 := 0) (j := 1) (dK D_Plan_replaceLateAds_1 0 rfl) rfl rfl ?_
          refine vg_getO (pc := 91) (ci := 4) (f := 0) (dK D_Plan_replaceLateAds_1 1 rfl) q_290 hc0 (ltK rfl) (ltK rfl) rfl ?_
          refine vg_getO (pc := 94) (ci := 8) (f := 2) (dK D_Plan_replaceLateAds_1 2 rfl) q_231 (hw_4_0 hc0) (ltK rfl) (ltK rfl) rfl ?_
          refine vg_getA (pc := 97) (ci := 7) (f := 1) (dK D_Plan_replaceLateAds_1 3 rfl) q_181 (hw_8_2 (hw_4_0 hc0)) (ltK rfl) (ltK rfl) rfl ?_
          refine g_iload (pc := 100) (j := 0) (dK D_Plan_replaceLateAds_1 4 rfl) rfl ?_
          refine g_iloadn (pc := 102) (i0 := 1) (j := 2) (dK D_Plan_replaceLateAds_1 5 rfl) rfl rfl ?_
          refine gdE h (fun hi10 h => ?_)
          refine nmE h (fun S11 e_S11 h => ?_)
          refine vg_iastore (pc := 103) (z := a1) (dK D_Plan_replaceLateAds_1 6 rfl) (hw_7_1 (hw_8_2 (hw_4_0 hc0))) rfl hi10 rfl e_S11 ?_
          refine nmE h (fun v12 e_v12 h => ?_)
          refine vg_iinc (pc := 104) (j := 4) (a := a3) (z := 1) (ls2 := [(3, V v12), (4, V p8), (0, .ref c0), (1, V a1), (2, .ref c2)]) (dK D_Plan_replaceLateAds_1 7 rfl) rfl e_v12 (ltK rfl) rfl ?_
          refine g_goto (pc := 107) (tgt := 10) (dK D_Plan_replaceLateAds_1 8 rfl) rfl ?_
          refine gL_weak (ls' := [(0, .ref c0), (1, V a1), (2, .ref c2), (3, V v12)]) (sbc 2 rfl (sbc 3 rfl (sbc 4 rfl (sbc 0 rfl sbn)))) ?_
          replace h := ih _ h
          exact h (Vn_in e_v12)
      · replace h := ifN h hc4
        refine nmE h (fun v5 e_v5 h => ?_)
        refine vg_iinc (pc := 104) (j := 3) (a := a3) (z := 1) (ls2 := [(3, V v5), (0, .ref c0), (1, V a1), (2, .ref c2)]) (dK D_Plan_replaceLateAds_1 7 rfl) rfl e_v5 (ltK rfl) rfl ?_
        refine g_goto (pc := 107) (tgt := 10) (dK D_Plan_replaceLateAds_1 8 rfl) rfl ?_
        refine gL_weak (ls' := [(0, .ref c0), (1, V a1), (2, .ref c2), (3, V v5)]) (sbc 1 rfl (sbc 2 rfl (sbc 3 rfl (sbc 0 rfl sbn)))) ?_
        replace h := ih _ h
        exact h (Vn_in e_v5)
def fn_Plan_replaceLateAds (c0 : Nat) (a1 : Int) (S : St) : Option (St) := bnO (lo_Plan_replaceLateAds_10 c0 a1 (tgt (tgt c0 0) 0) FU (0, S)) fun p16 => some p16
theorem tf_Plan_replaceLateAds {E : EV} {X : XT} {c0 : Nat} (hc0 : HC X 4 c0) {a1 : Int} (ha1 : inR a1) {S : St} {q : St} (h : fn_Plan_replaceLateAds c0 a1 S = some q) : Ev E M_Plan_replaceLateAds [.ref c0, V a1] (WX X S) 0 0 (KU X q) := by
  refine Ev.of pn_Plan rfl (leK rfl) ?_
  show Go E M_Plan_replaceLateAds 0 0 0 [(0, .ref c0), (1, V a1)] [] (WX X S) 0 0 (KU X q)
  unfold fn_Plan_replaceLateAds at h
  refine g_aloadn (pc := 0) (i0 := 0) (j := 0) (dK D_Plan_replaceLateAds_0 0 rfl) rfl rfl ?_
  refine vg_getO (pc := 1) (ci := 4) (f := 0) (dK D_Plan_replaceLateAds_0 1 rfl) q_290 hc0 (ltK rfl) (ltK rfl) rfl ?_
  refine vg_getO (pc := 4) (ci := 8) (f := 0) (dK D_Plan_replaceLateAds_0 2 rfl) q_222 (hw_4_0 hc0) (ltK rfl) (ltK rfl) rfl ?_
  refine g_astoren (pc := 7) (i0 := 2) (ls2 := [(2, .ref (tgt (tgt c0 0) 0)), (0, .ref c0), (1, V a1)]) (dK D_Plan_replaceLateAds_0 3 rfl) rfl (ltK rfl) rfl ?_
  refine vg_iconst (pc := 8) (dK D_Plan_replaceLateAds_0 4 rfl) ?_
  refine g_istoren (pc := 9) (i0 := 3) (ls2 := [(3, V 0), (2, .ref (tgt (tgt c0 0) 0)), (0, .ref c0), (1, V a1)]) (dK D_Plan_replaceLateAds_0 5 rfl) rfl (ltK rfl) rfl ?_
  refine bnE h (fun p16 e_p16 h => ?_)
  refine gL_weak (ls' := [(0, .ref c0), (1, V a1), (2, .ref (tgt (tgt c0 0) 0)), (3, V 0)]) (sbc 2 rfl (sbc 3 rfl (sbc 1 rfl (sbc 0 rfl sbn)))) ?_
  refine tl_Plan_replaceLateAds_10 hc0 ha1 (hw_8_0 (hw_4_0 hc0)) ?_ FU (0, S) e_p16 (inRk rfl)
  exact g_return (pc := 110) (dK D_Plan_replaceLateAds_1 9 rfl) rfl (leK rfl) (leK rfl) (fun _ => rfl) (by obtain rfl := Option.some.inj h; exact ⟨rfl, rfl⟩)
def lb_Plan_closeForm_2 (c0 : Nat) (a1 : Int) (go : Int × St → Option (St)) (a2 : Int) (S : St) : Option (St) := if (g S (tgt (tgt c0 0) 1) 5) ≤ a2 then (some S) else (if 0 ≤ a2 ∧ a2 < 10 then (bnO (fn_Plan_isLate c0 (g S (tgt (tgt (tgt c0 0) 1) 3) a2.toNat) S) fun p2 => if p2 = true then (bnO (fn_Plan_storyIsOn c0 a2 a1 S) fun p5 => if p5 = true then (nm (u S (tgt (tgt (tgt c0 0) 1) 4) a2.toNat 0) fun S8 => nm (wr (a2 + 1)) fun v9 => go (v9, S8)) else (nm (wr (a2 + 1)) fun v7 => go (v7, S))) else (nm (wr (a2 + 1)) fun v4 => go (v4, S))) else none)
def lo_Plan_closeForm_2 (c0 : Nat) (a1 : Int) : Nat → Int × St → Option (St) := lp fun go p => lb_Plan_closeForm_2 c0 a1 go p.1 p.2
theorem tl_Plan_closeForm_2 {E : EV} {X : XT} {c0 : Nat} (hc0 : HC X 4 c0) {a1 : Int} (ha1 : inR a1) {K : RK → PS → Prop} {q : St} (hx : Go E M_Plan_closeForm 0 0 63 [(0, .ref c0), (1, V a1)] [] (WX X q) 0 0 K) : ∀ n a, lo_Plan_closeForm_2 c0 a1 n a = some q → inR a.1 → Go E M_Plan_closeForm 0 0 2 [(0, .ref c0), (1, V a1), (2, V a.1)] [] (WX X a.2) 0 0 K := by
  refine lp_ind (P := fun a : Int × St => inR a.1 → Go E M_Plan_closeForm 0 0 2 [(0, .ref c0), (1, V a1), (2, V a.1)] [] (WX X a.2) 0 0 K) (fun go ih a h => ?_)
  obtain ⟨a2, S⟩ := a
  intro ha2
  show Go E M_Plan_closeForm 0 0 2 [(0, .ref c0), (1, V a1), (2, V a2)] [] (WX X S) 0 0 K
  replace h : lb_Plan_closeForm_2 c0 a1 go a2 S = some q := h
  unfold lb_Plan_closeForm_2 at h
  refine g_iloadn (pc := 2) (i0 := 2) (j := 2) (dK D_Plan_closeForm_0 2 rfl) rfl rfl ?_
  refine g_aloadn (pc := 3) (i0 := 0) (j := 0) (dK D_Plan_closeForm_0 3 rfl) rfl rfl ?_
  refine vg_getO (pc := 4) (ci := 4) (f := 0) (dK D_Plan_closeForm_0 4 rfl) q_290 hc0 (ltK rfl) (ltK rfl) rfl ?_
  refine vg_getO (pc := 7) (ci := 8) (f := 1) (dK D_Plan_closeForm_0 5 rfl) q_226 (hw_4_0 hc0) (ltK rfl) (ltK rfl) rfl ?_
  refine vg_getI (pc := 10) (ci := 9) (f := 5) (dK D_Plan_closeForm_0 6 rfl) q_154 (hw_8_1 (hw_4_0 hc0)) (ltK rfl) (ltK rfl) rfl ?_
  refine vg_icmp_ge (pc := 13) (t := 63) (dK D_Plan_closeForm_0 7 rfl) rfl ha2 (g_in _ _ _) (fun hc10 => ?_) (fun hc10 => ?_)
  · replace h := ifP h hc10
    obtain rfl := Option.some.inj h
    refine gL_weak (ls' := [(0, .ref c0), (1, V a1)]) (sbc 0 rfl (sbc 1 rfl sbn)) ?_
    exact hx 
  · replace h := ifN h hc10
    refine g_aloadn (pc := 16) (i0 := 0) (j := 0) (dK D_Plan_closeForm_0 8 rfl) rfl rfl ?_
    refine g_aloadn (pc := 17) (i0 := 0) (j := 0) (dK D_Plan_closeForm_0 9 rfl) rfl rfl ?_
    refine vg_getO (pc := 18) (ci := 4) (f := 0) (dK D_Plan_closeForm_0 10 rfl) q_290 hc0 (ltK rfl) (ltK rfl) rfl ?_
    refine vg_getO (pc := 21) (ci := 8) (f := 1) (dK D_Plan_closeForm_0 11 rfl) q_226 (hw_4_0 hc0) (ltK rfl) (ltK rfl) rfl ?_
    refine vg_getA (pc := 24) (ci := 9) (f := 3) (dK D_Plan_closeForm_0 12 rfl) q_147 (hw_8_1 (hw_4_0 hc0)) (ltK rfl) (ltK rfl) rfl ?_
    refine g_iloadn (pc := 27) (i0 := 2) (j := 2) (dK D_Plan_closeForm_0 13 rfl) rfl rfl ?_
    refine gdE h (fun hi1 h => ?_)
    refine vg_iaload (pc := 28) (j := a2.toNat) (dK D_Plan_closeForm_0 14 rfl) (hw_9_3 (hw_8_1 (hw_4_0 hc0))) rfl hi1 rfl ?_
    refine bnE h (fun p2 e_p2 h => ?_)
    refine vg_cV (pc := 29) (As := [V (g S (tgt (tgt (tgt c0 0) 1) 3) a2.toNat)]) (rest := []) (mc' := 0) (ms' := 0) (dK D_Plan_closeForm_0 15 rfl) K_Plan_186 (fitK rfl) (ltK rfl) hc0 rfl (leK rfl) (leK rfl) (leK rfl) (tf_Plan_isLate hc0 (g_in _ _ _) e_p2) (kcB ?_)
    refine vg_ifB_eq (pc := 32) (b := p2) (t := 57) (dK D_Plan_closeForm_0 16 rfl) rfl (fun hc3 => ?_) (fun hc3 => ?_)
    · replace h := ifP h hc3
      refine g_aloadn (pc := 35) (i0 := 0) (j := 0) (dK D_Plan_closeForm_0 17 rfl) rfl rfl ?_
      refine g_iloadn (pc := 36) (i0 := 2) (j := 2) (dK D_Plan_closeForm_0 18 rfl) rfl rfl ?_
      refine g_iloadn (pc := 37) (i0 := 1) (j := 1) (dK D_Plan_closeForm_0 19 rfl) rfl rfl ?_
      refine bnE h (fun p5 e_p5 h => ?_)
      refine vg_cV (pc := 38) (As := [V a2, V a1]) (rest := []) (mc' := 0) (ms' := 0) (dK D_Plan_closeForm_0 20 rfl) K_Plan_180 (fitK rfl) (ltK rfl) hc0 rfl (leK rfl) (leK rfl) (leK rfl) (tf_Plan_storyIsOn hc0 ha2 ha1 e_p5) (kcB ?_)
      refine vg_ifB_eq (pc := 41) (b := p5) (t := 57) (dK D_Plan_closeForm_0 21 rfl) rfl (fun hc6 => ?_) (fun hc6 => ?_)
      · replace h := ifP h hc6
        refine g_aloadn (pc := 44) (i0 := 0) (j := 0) (dK D_Plan_closeForm_0 22 rfl) rfl rfl ?_
        refine vg_getO (pc := 45) (ci := 4) (f := 0) (dK D_Plan_closeForm_0 23 rfl) q_290 hc0 (ltK rfl) (ltK rfl) rfl ?_
        refine vg_getO (pc := 48) (ci := 8) (f := 1) (dK D_Plan_closeForm_0 24 rfl) q_226 (hw_4_0 hc0) (ltK rfl) (ltK rfl) rfl ?_
        refine vg_getA (pc := 51) (ci := 9) (f := 4) (dK D_Plan_closeForm_0 25 rfl) q_150 (hw_8_1 (hw_4_0 hc0)) (ltK rfl) (ltK rfl) rfl ?_
        refine g_iloadn (pc := 54) (i0 := 2) (j := 2) (dK D_Plan_closeForm_0 26 rfl) rfl rfl ?_
        refine vg_iconst (pc := 55) (dK D_Plan_closeForm_0 27 rfl) ?_
        refine nmE h (fun S8 e_S8 h => ?_)
        refine vg_iastore (pc := 56) (z := 0) (dK D_Plan_closeForm_0 28 rfl) (hw_9_4 (hw_8_1 (hw_4_0 hc0))) rfl hi1 rfl e_S8 ?_
        refine nmE h (fun v9 e_v9 h => ?_)
        refine vg_iinc (pc := 57) (j := 2) (a := a2) (z := 1) (ls2 := [(2, V v9), (0, .ref c0), (1, V a1)]) (dK D_Plan_closeForm_0 29 rfl) rfl e_v9 (ltK rfl) rfl ?_
        refine g_goto (pc := 60) (tgt := 2) (dK D_Plan_closeForm_0 30 rfl) rfl ?_
        refine gL_weak (ls' := [(0, .ref c0), (1, V a1), (2, V v9)]) (sbc 1 rfl (sbc 2 rfl (sbc 0 rfl sbn))) ?_
        replace h := ih _ h
        exact h (Vn_in e_v9)
      · replace h := ifN h hc6
        refine nmE h (fun v7 e_v7 h => ?_)
        refine vg_iinc (pc := 57) (j := 2) (a := a2) (z := 1) (ls2 := [(2, V v7), (0, .ref c0), (1, V a1)]) (dK D_Plan_closeForm_0 29 rfl) rfl e_v7 (ltK rfl) rfl ?_
        refine g_goto (pc := 60) (tgt := 2) (dK D_Plan_closeForm_0 30 rfl) rfl ?_
        refine gL_weak (ls' := [(0, .ref c0), (1, V a1), (2, V v7)]) (sbc 1 rfl (sbc 2 rfl (sbc 0 rfl sbn))) ?_
        replace h := ih _ h
        exact h (Vn_in e_v7)
    · replace h := ifN h hc3
      refine nmE h (fun v4 e_v4 h => ?_)
      refine vg_iinc (pc := 57) (j := 2) (a := a2) (z := 1) (ls2 := [(2, V v4), (0, .ref c0), (1, V a1)]) (dK D_Plan_closeForm_0 29 rfl) rfl e_v4 (ltK rfl) rfl ?_
      refine g_goto (pc := 60) (tgt := 2) (dK D_Plan_closeForm_0 30 rfl) rfl ?_
      refine gL_weak (ls' := [(0, .ref c0), (1, V a1), (2, V v4)]) (sbc 1 rfl (sbc 2 rfl (sbc 0 rfl sbn))) ?_
      replace h := ih _ h
      exact h (Vn_in e_v4)
def lb_Plan_closeForm_65 (c0 : Nat) (a1 : Int) (go : Int × St → Option (St)) (a2 : Int) (S : St) : Option (St) := if (g S c0 1) < a2 then (some S) else (if 0 ≤ a2 ∧ a2 < 65 then (if (g S (tgt c0 3) a2.toNat) = a1 then (bnO (fn_Plan_replaceLateAds c0 a2 S) fun p14 => nm (wr (a2 + 1)) fun v15 => go (v15, p14)) else (nm (wr (a2 + 1)) fun v13 => go (v13, S))) else none)
def lo_Plan_closeForm_65 (c0 : Nat) (a1 : Int) : Nat → Int × St → Option (St) := lp fun go p => lb_Plan_closeForm_65 c0 a1 go p.1 p.2
theorem tl_Plan_closeForm_65 {E : EV} {X : XT} {c0 : Nat} (hc0 : HC X 4 c0) {a1 : Int} (ha1 : inR a1) {K : RK → PS → Prop} {q : St} (hx : Go E M_Plan_closeForm 0 0 94 [(0, .ref c0), (1, V a1)] [] (WX X q) 0 0 K) : ∀ n a, lo_Plan_closeForm_65 c0 a1 n a = some q → inR a.1 → Go E M_Plan_closeForm 0 0 65 [(0, .ref c0), (1, V a1), (2, V a.1)] [] (WX X a.2) 0 0 K := by
  refine lp_ind (P := fun a : Int × St => inR a.1 → Go E M_Plan_closeForm 0 0 65 [(0, .ref c0), (1, V a1), (2, V a.1)] [] (WX X a.2) 0 0 K) (fun go ih a h => ?_)
  obtain ⟨a2, S⟩ := a
  intro ha2
  show Go E M_Plan_closeForm 0 0 65 [(0, .ref c0), (1, V a1), (2, V a2)] [] (WX X S) 0 0 K
  replace h : lb_Plan_closeForm_65 c0 a1 go a2 S = some q := h
  unfold lb_Plan_closeForm_65 at h
  refine g_iloadn (pc := 65) (i0 := 2) (j := 2) (dK D_Plan_closeForm_0 33 rfl) rfl rfl ?_
  refine g_aloadn (pc := 66) (i0 := 0) (j := 0) (dK D_Plan_closeForm_0 34 rfl) rfl rfl ?_
  refine vg_getI (pc := 67) (ci := 4) (f := 1) (dK D_Plan_closeForm_0 35 rfl) q_294 hc0 (ltK rfl) (ltK rfl) rfl ?_
  refine vg_icmp_gt (pc := 70) (t := 94) (dK D_Plan_closeForm_0 36 rfl) rfl ha2 (g_in _ _ _) (fun hc17 => ?_) (fun hc17 => ?_)
  · replace h := ifP h hc17
    obtain rfl := Option.some.inj h
    refine gL_weak (ls' := [(0, .ref c0), (1, V a1)]) (sbc 0 rfl (sbc 1 rfl sbn)) ?_
    exact hx 
  · replace h := ifN h hc17
    refine g_aloadn (pc := 73) (i0 := 0) (j := 0) (dK D_Plan_closeForm_0 37 rfl) rfl rfl ?_
    refine vg_getA (pc := 74) (ci := 4) (f := 3) (dK D_Plan_closeForm_0 38 rfl) q_302 hc0 (ltK rfl) (ltK rfl) rfl ?_
    refine g_iloadn (pc := 77) (i0 := 2) (j := 2) (dK D_Plan_closeForm_0 39 rfl) rfl rfl ?_
    refine gdE h (fun hi12 h => ?_)
    refine vg_iaload (pc := 78) (j := a2.toNat) (dK D_Plan_closeForm_0 40 rfl) (hw_4_3 hc0) rfl hi12 rfl ?_
    refine g_iloadn (pc := 79) (i0 := 1) (j := 1) (dK D_Plan_closeForm_0 41 rfl) rfl rfl ?_
    refine vg_icmp_ne (pc := 80) (t := 88) (dK D_Plan_closeForm_0 42 rfl) rfl (g_in _ _ _) ha1 (fun hc16 => ?_) (fun hc16 => ?_)
    · replace h := ifN h hc16
      refine nmE h (fun v13 e_v13 h => ?_)
      refine vg_iinc (pc := 88) (j := 2) (a := a2) (z := 1) (ls2 := [(2, V v13), (0, .ref c0), (1, V a1)]) (dK D_Plan_closeForm_0 46 rfl) rfl e_v13 (ltK rfl) rfl ?_
      refine g_goto (pc := 91) (tgt := 65) (dK D_Plan_closeForm_0 47 rfl) rfl ?_
      refine gL_weak (ls' := [(0, .ref c0), (1, V a1), (2, V v13)]) (sbc 1 rfl (sbc 2 rfl (sbc 0 rfl sbn))) ?_
      replace h := ih _ h
      exact h (Vn_in e_v13)
    · replace h := ifP h hc16
      refine g_aloadn (pc := 83) (i0 := 0) (j := 0) (dK D_Plan_closeForm_0 43 rfl) rfl rfl ?_
      refine g_iloadn (pc := 84) (i0 := 2) (j := 2) (dK D_Plan_closeForm_0 44 rfl) rfl rfl ?_
      refine bnE h (fun p14 e_p14 h => ?_)
      refine vg_cV (pc := 85) (As := [V a2]) (rest := []) (mc' := 0) (ms' := 0) (dK D_Plan_closeForm_0 45 rfl) K_Plan_198 (fitK rfl) (ltK rfl) hc0 rfl (leK rfl) (leK rfl) (leK rfl) (tf_Plan_replaceLateAds hc0 ha2 e_p14) (kcU ?_)
      refine nmE h (fun v15 e_v15 h => ?_)
      refine vg_iinc (pc := 88) (j := 2) (a := a2) (z := 1) (ls2 := [(2, V v15), (0, .ref c0), (1, V a1)]) (dK D_Plan_closeForm_0 46 rfl) rfl e_v15 (ltK rfl) rfl ?_
      refine g_goto (pc := 91) (tgt := 65) (dK D_Plan_closeForm_0 47 rfl) rfl ?_
      refine gL_weak (ls' := [(0, .ref c0), (1, V a1), (2, V v15)]) (sbc 1 rfl (sbc 2 rfl (sbc 0 rfl sbn))) ?_
      replace h := ih _ h
      exact h (Vn_in e_v15)
def fn_Plan_closeForm (c0 : Nat) (a1 : Int) (S : St) : Option (St) := bnO (lo_Plan_closeForm_2 c0 a1 FU (0, S)) fun p11 => bnO (lo_Plan_closeForm_65 c0 a1 FU (1, p11)) fun p18 => if 0 ≤ a1 ∧ a1 < 8 then (nm (u p18 (tgt (tgt (tgt c0 0) 3) 1) a1.toNat 1) fun S20 => bnO (fn_Plan_recount c0 S20) fun p21 => some p21) else none
theorem tf_Plan_closeForm {E : EV} {X : XT} {c0 : Nat} (hc0 : HC X 4 c0) {a1 : Int} (ha1 : inR a1) {S : St} {q : St} (h : fn_Plan_closeForm c0 a1 S = some q) : Ev E M_Plan_closeForm [.ref c0, V a1] (WX X S) 0 0 (KU X q) := by
  refine Ev.of pn_Plan rfl (leK rfl) ?_
  show Go E M_Plan_closeForm 0 0 0 [(0, .ref c0), (1, V a1)] [] (WX X S) 0 0 (KU X q)
  unfold fn_Plan_closeForm at h
  refine vg_iconst (pc := 0) (dK D_Plan_closeForm_0 0 rfl) ?_
  refine g_istoren (pc := 1) (i0 := 2) (ls2 := [(2, V 0), (0, .ref c0), (1, V a1)]) (dK D_Plan_closeForm_0 1 rfl) rfl (ltK rfl) rfl ?_
  refine bnE h (fun p11 e_p11 h => ?_)
  refine gL_weak (ls' := [(0, .ref c0), (1, V a1), (2, V 0)]) (sbc 1 rfl (sbc 2 rfl (sbc 0 rfl sbn))) ?_
  refine tl_Plan_closeForm_2 hc0 ha1 ?_ FU (0, S) e_p11 (inRk rfl)
  refine vg_iconst (pc := 63) (dK D_Plan_closeForm_0 31 rfl) ?_
  refine g_istoren (pc := 64) (i0 := 2) (ls2 := [(2, V 1), (0, .ref c0), (1, V a1)]) (dK D_Plan_closeForm_0 32 rfl) rfl (ltK rfl) rfl ?_
  refine bnE h (fun p18 e_p18 h => ?_)
  refine gL_weak (ls' := [(0, .ref c0), (1, V a1), (2, V 1)]) (sbc 1 rfl (sbc 2 rfl (sbc 0 rfl sbn))) ?_
  refine tl_Plan_closeForm_65 hc0 ha1 ?_ FU (1, p11) e_p18 (inRk rfl)
  refine g_aloadn (pc := 94) (i0 := 0) (j := 0) (dK D_Plan_closeForm_0 48 rfl) rfl rfl ?_
  refine vg_getO (pc := 95) (ci := 4) (f := 0) (dK D_Plan_closeForm_0 49 rfl) q_290 hc0 (ltK rfl) (ltK rfl) rfl ?_
  refine vg_getO (pc := 98) (ci := 8) (f := 3) (dK D_Plan_closeForm_1 0 rfl) q_235 (hw_4_0 hc0) (ltK rfl) (ltK rfl) rfl ?_
  refine vg_getA (pc := 101) (ci := 2) (f := 1) (dK D_Plan_closeForm_1 1 rfl) q_206 (hw_8_3 (hw_4_0 hc0)) (ltK rfl) (ltK rfl) rfl ?_
  refine g_iloadn (pc := 104) (i0 := 1) (j := 1) (dK D_Plan_closeForm_1 2 rfl) rfl rfl ?_
  refine vg_iconst (pc := 105) (dK D_Plan_closeForm_1 3 rfl) ?_
  refine gdE h (fun hi19 h => ?_)
  refine nmE h (fun S20 e_S20 h => ?_)
  refine vg_iastore (pc := 106) (z := 1) (dK D_Plan_closeForm_1 4 rfl) (hw_2_1 (hw_8_3 (hw_4_0 hc0))) rfl hi19 rfl e_S20 ?_
  refine g_aloadn (pc := 107) (i0 := 0) (j := 0) (dK D_Plan_closeForm_1 5 rfl) rfl rfl ?_
  refine bnE h (fun p21 e_p21 h => ?_)
  refine vg_cV (pc := 108) (As := []) (rest := []) (mc' := 0) (ms' := 0) (dK D_Plan_closeForm_1 6 rfl) K_Plan_98 (fitK rfl) (ltK rfl) hc0 rfl (leK rfl) (leK rfl) (leK rfl) (tf_Plan_recount hc0 e_p21) (kcU ?_)
  exact g_return (pc := 111) (dK D_Plan_closeForm_1 7 rfl) rfl (leK rfl) (leK rfl) (fun _ => rfl) (by obtain rfl := Option.some.inj h; exact ⟨rfl, rfl⟩)
def lb_Plan_closeDueForms_4 (c0 : Nat) (go : Int × Int × St → Option ((Int × St) ⊕ (Int × St))) (a1 : Int) (a2 : Int) (S : St) : Option ((Int × St) ⊕ (Int × St)) := if (g S c0 2) ≤ a2 then (some (.inr (a1, S))) else (bnO (fn_Plan_soonestForm c0 S) fun p1 => if p1 = (-1) then (some (.inl (a1, S))) else (if 0 ≤ p1 ∧ p1 < 8 then (if (g S (tgt (tgt (tgt c0 0) 3) 2) p1.toNat) ≤ (g S (tgt c0 0) 6) then (bnO (fn_Plan_closeForm c0 p1 S) fun p3 => nm (wr (a1 + 1)) fun v4 => nm (wr (a2 + 1)) fun v5 => go (v4, v5, p3)) else (some (.inl (a1, S)))) else none))
def lo_Plan_closeDueForms_4 (c0 : Nat) : Nat → Int × Int × St → Option ((Int × St) ⊕ (Int × St)) := lp fun go p => lb_Plan_closeDueForms_4 c0 go p.1 p.2.1 p.2.2
theorem tl_Plan_closeDueForms_4 {E : EV} {X : XT} {c0 : Nat} (hc0 : HC X 4 c0) {K : RK → PS → Prop} {q : (Int × St) ⊕ (Int × St)} (hx : ∀ p, q = .inr p → inR p.1 → Go E M_Plan_closeDueForms 0 0 60 [(1, V p.1)] [] (WX X p.2) 0 0 K) (hr : ∀ p, q = .inl p → inR p.1 → K (.inl (some (V p.1))) (WX X p.2)) : ∀ n a, lo_Plan_closeDueForms_4 c0 n a = some q → inR a.1 → inR a.2.1 → Go E M_Plan_closeDueForms 0 0 4 [(0, .ref c0), (1, V a.1), (2, V a.2.1)] [] (WX X a.2.2) 0 0 K := by
  refine lp_ind (P := fun a : Int × Int × St => inR a.1 → inR a.2.1 → Go E M_Plan_closeDueForms 0 0 4 [(0, .ref c0), (1, V a.1), (2, V a.2.1)] [] (WX X a.2.2) 0 0 K) (fun go ih a h => ?_)
  obtain ⟨a1, a2, S⟩ := a
  intro ha1 ha2
  show Go E M_Plan_closeDueForms 0 0 4 [(0, .ref c0), (1, V a1), (2, V a2)] [] (WX X S) 0 0 K
  replace h : lb_Plan_closeDueForms_4 c0 go a1 a2 S = some q := h
  unfold lb_Plan_closeDueForms_4 at h
  refine g_iloadn (pc := 4) (i0 := 2) (j := 2) (dK D_Plan_closeDueForms 4 rfl) rfl rfl ?_
  refine g_aloadn (pc := 5) (i0 := 0) (j := 0) (dK D_Plan_closeDueForms 5 rfl) rfl rfl ?_
  refine vg_getI (pc := 6) (ci := 4) (f := 2) (dK D_Plan_closeDueForms 6 rfl) q_298 hc0 (ltK rfl) (ltK rfl) rfl ?_
  refine vg_icmp_ge (pc := 9) (t := 60) (dK D_Plan_closeDueForms 7 rfl) rfl ha2 (g_in _ _ _) (fun hc8 => ?_) (fun hc8 => ?_)
  · replace h := ifP h hc8
    refine gL_weak (ls' := [(1, V a1)]) (sbc 1 rfl sbn) ?_
    exact hx _ (Option.some.inj h).symm ha1
  · replace h := ifN h hc8
    refine g_aloadn (pc := 12) (i0 := 0) (j := 0) (dK D_Plan_closeDueForms 8 rfl) rfl rfl ?_
    refine bnE h (fun p1 e_p1 h => ?_)
    refine vg_cV (pc := 13) (As := []) (rest := []) (mc' := 0) (ms' := 0) (dK D_Plan_closeDueForms 9 rfl) K_Plan_190 (fitK rfl) (ltK rfl) hc0 rfl (leK rfl) (leK rfl) (leK rfl) (tf_Plan_soonestForm hc0 e_p1) (kcI (fun h_p1 => ?_))
    refine g_istoren (pc := 16) (i0 := 3) (ls2 := [(3, V p1), (0, .ref c0), (1, V a1), (2, V a2)]) (dK D_Plan_closeDueForms 10 rfl) rfl (ltK rfl) rfl ?_
    refine g_iloadn (pc := 17) (i0 := 3) (j := 0) (dK D_Plan_closeDueForms 11 rfl) rfl rfl ?_
    refine vg_iconst (pc := 18) (dK D_Plan_closeDueForms 12 rfl) ?_
    refine vg_icmp_eq (pc := 19) (t := 44) (dK D_Plan_closeDueForms 13 rfl) rfl h_p1 (inRk rfl) (fun hc7 => ?_) (fun hc7 => ?_)
    · replace h := ifP h hc7
      refine g_iloadn (pc := 44) (i0 := 1) (j := 2) (dK D_Plan_closeDueForms 24 rfl) rfl rfl ?_
      exact vg_iretI (pc := 45) (r := a1) (dK D_Plan_closeDueForms 25 rfl) rfl (leK rfl) (leK rfl) (fun _ => rfl) (hr _ (Option.some.inj h).symm ha1)
    · replace h := ifN h hc7
      refine g_aloadn (pc := 22) (i0 := 0) (j := 1) (dK D_Plan_closeDueForms 14 rfl) rfl rfl ?_
      refine vg_getO (pc := 23) (ci := 4) (f := 0) (dK D_Plan_closeDueForms 15 rfl) q_290 hc0 (ltK rfl) (ltK rfl) rfl ?_
      refine vg_getO (pc := 26) (ci := 8) (f := 3) (dK D_Plan_closeDueForms 16 rfl) q_235 (hw_4_0 hc0) (ltK rfl) (ltK rfl) rfl ?_
      refine vg_getA (pc := 29) (ci := 2) (f := 2) (dK D_Plan_closeDueForms 17 rfl) q_210 (hw_8_3 (hw_4_0 hc0)) (ltK rfl) (ltK rfl) rfl ?_
      refine g_iloadn (pc := 32) (i0 := 3) (j := 0) (dK D_Plan_closeDueForms 18 rfl) rfl rfl ?_
      refine gdE h (fun hi2 h => ?_)
      refine vg_iaload (pc := 33) (j := p1.toNat) (dK D_Plan_closeDueForms 19 rfl) (hw_2_2 (hw_8_3 (hw_4_0 hc0))) rfl hi2 rfl ?_
      refine g_aloadn (pc := 34) (i0 := 0) (j := 1) (dK D_Plan_closeDueForms 20 rfl) rfl rfl ?_
      refine vg_getO (pc := 35) (ci := 4) (f := 0) (dK D_Plan_closeDueForms 21 rfl) q_290 hc0 (ltK rfl) (ltK rfl) rfl ?_
      refine vg_getI (pc := 38) (ci := 8) (f := 6) (dK D_Plan_closeDueForms 22 rfl) q_245 (hw_4_0 hc0) (ltK rfl) (ltK rfl) rfl ?_
      refine vg_icmp_le (pc := 41) (t := 46) (dK D_Plan_closeDueForms 23 rfl) rfl (g_in _ _ _) (g_in _ _ _) (fun hc6 => ?_) (fun hc6 => ?_)
      · replace h := ifP h hc6
        refine g_aloadn (pc := 46) (i0 := 0) (j := 1) (dK D_Plan_closeDueForms 26 rfl) rfl rfl ?_
        refine g_iloadn (pc := 47) (i0 := 3) (j := 0) (dK D_Plan_closeDueForms 27 rfl) rfl rfl ?_
        refine bnE h (fun p3 e_p3 h => ?_)
        refine vg_cV (pc := 48) (As := [V p1]) (rest := []) (mc' := 0) (ms' := 0) (dK D_Plan_closeDueForms 28 rfl) K_Plan_194 (fitK rfl) (ltK rfl) hc0 rfl (leK rfl) (leK rfl) (leK rfl) (tf_Plan_closeForm hc0 h_p1 e_p3) (kcU ?_)
        refine nmE h (fun v4 e_v4 h => ?_)
        refine vg_iinc (pc := 51) (j := 2) (a := a1) (z := 1) (ls2 := [(1, V v4), (3, V p1), (0, .ref c0), (2, V a2)]) (dK D_Plan_closeDueForms 29 rfl) rfl e_v4 (ltK rfl) rfl ?_
        refine nmE h (fun v5 e_v5 h => ?_)
        refine vg_iinc (pc := 54) (j := 3) (a := a2) (z := 1) (ls2 := [(2, V v5), (1, V v4), (3, V p1), (0, .ref c0)]) (dK D_Plan_closeDueForms 30 rfl) rfl e_v5 (ltK rfl) rfl ?_
        refine g_goto (pc := 57) (tgt := 4) (dK D_Plan_closeDueForms 31 rfl) rfl ?_
        refine gL_weak (ls' := [(0, .ref c0), (1, V v4), (2, V v5)]) (sbc 3 rfl (sbc 1 rfl (sbc 0 rfl sbn))) ?_
        replace h := ih _ h
        exact h (Vn_in e_v4) (Vn_in e_v5)
      · replace h := ifN h hc6
        refine g_iloadn (pc := 44) (i0 := 1) (j := 2) (dK D_Plan_closeDueForms 24 rfl) rfl rfl ?_
        exact vg_iretI (pc := 45) (r := a1) (dK D_Plan_closeDueForms 25 rfl) rfl (leK rfl) (leK rfl) (fun _ => rfl) (hr _ (Option.some.inj h).symm ha1)
def fn_Plan_closeDueForms (c0 : Nat) (S : St) : Option (Int × St) := bnS (lo_Plan_closeDueForms_4 c0 FU (0, 0, S)) (fun p10 => some (p10.1, p10.2)) fun p9 => some (p9.1, p9.2)
theorem tf_Plan_closeDueForms {E : EV} {X : XT} {c0 : Nat} (hc0 : HC X 4 c0) {S : St} {q : Int × St} (h : fn_Plan_closeDueForms c0 S = some q) : Ev E M_Plan_closeDueForms [.ref c0] (WX X S) 0 0 (KI X q.1 q.2) := by
  refine Ev.of pn_Plan rfl (leK rfl) ?_
  show Go E M_Plan_closeDueForms 0 0 0 [(0, .ref c0)] [] (WX X S) 0 0 (KI X q.1 q.2)
  unfold fn_Plan_closeDueForms at h
  refine vg_iconst (pc := 0) (dK D_Plan_closeDueForms 0 rfl) ?_
  refine g_istoren (pc := 1) (i0 := 1) (ls2 := [(1, V 0), (0, .ref c0)]) (dK D_Plan_closeDueForms 1 rfl) rfl (ltK rfl) rfl ?_
  refine vg_iconst (pc := 2) (dK D_Plan_closeDueForms 2 rfl) ?_
  refine g_istoren (pc := 3) (i0 := 2) (ls2 := [(2, V 0), (1, V 0), (0, .ref c0)]) (dK D_Plan_closeDueForms 3 rfl) rfl (ltK rfl) rfl ?_
  refine bnSE h (fun p10 e_p10 h => ?_) (fun p9 e_p9 h => ?_)
  · refine gL_weak (ls' := [(0, .ref c0), (1, V 0), (2, V 0)]) (sbc 2 rfl (sbc 1 rfl (sbc 0 rfl sbn))) ?_
    refine tl_Plan_closeDueForms_4 hc0 (fun _ e => slr e) (fun p e hr_p10 => ?_) FU (0, 0, S) e_p10 (inRk rfl) (inRk rfl)
    have e := Sum.inl.inj e
    subst e
    exact (by obtain rfl := Option.some.inj h; exact ⟨rfl, hr_p10, rfl⟩)
  · refine gL_weak (ls' := [(0, .ref c0), (1, V 0), (2, V 0)]) (sbc 2 rfl (sbc 1 rfl (sbc 0 rfl sbn))) ?_
    refine tl_Plan_closeDueForms_4 hc0 (fun p e hx1_p9 => ?_) (fun _ e => srl e) FU (0, 0, S) e_p9 (inRk rfl) (inRk rfl)
    have e := Sum.inr.inj e
    subst e
    refine g_iloadn (pc := 60) (i0 := 1) (j := 0) (dK D_Plan_closeDueForms 32 rfl) rfl rfl ?_
    exact vg_iretI (pc := 61) (r := p9.1) (dK D_Plan_closeDueForms 33 rfl) rfl (leK rfl) (leK rfl) (fun _ => rfl) (by obtain rfl := Option.some.inj h; exact ⟨rfl, hx1_p9, rfl⟩)
def fn_FP_setClosing (c0 : Nat) (a1 : Int) (a2 : Int) (S : St) : Option (Nat × Int × St) := bnO (fn_FP_needForm c0 a1 S) fun p1 => if p1 = 0 then (if a2 < 1 then (some (2, 0, S)) else (if a2 ≤ 9999 then (if 0 ≤ a1 ∧ a1 < 8 then (if (g S (tgt (tgt (tgt (tgt c0 3) 0) 3) 1) a1.toNat) = 1 then (some (0, (-4), S)) else (bnO (fn_History_keep (tgt c0 4) (tgt (tgt c0 3) 0) S) fun p3 => nm (u p3 (tgt (tgt (tgt (tgt c0 3) 0) 3) 2) a1.toNat a2) fun S4 => bnO (fn_Plan_closeDueForms (tgt c0 3) S4) fun p5 => bnO (fn_FP_orNone (g p3 (tgt (tgt (tgt (tgt c0 3) 0) 3) 2) a1.toNat) p5.2) fun p6 => some (0, p6, p5.2))) else none) else (some (2, 0, S)))) else (some (p1, 0, S))
theorem tf_FP_setClosing {E : EV} {X : XT} (hfl : X.2.2.2 = false) {c0 : Nat} (hc0 : HC X 10 c0) {a1 : Int} (ha1 : inR a1) {a2 : Int} (ha2 : inR a2) {S : St} {q : Nat × Int × St} (h : fn_FP_setClosing c0 a1 a2 S = some q) : Ev E M_FP_setClosing [.ref c0, V a1, V a2] (WX X S) 2 12 (KT X q.1 q.2.2 (KI X q.2.1 q.2.2)) := by
  refine Ev.of pn_FP rfl (leK rfl) ?_
  show Go E M_FP_setClosing 2 12 0 [(0, .ref c0), (1, V a1), (2, V a2)] [] (WX X S) 0 0 (KT X q.1 q.2.2 (KI X q.2.1 q.2.2))
  unfold fn_FP_setClosing at h
  refine g_aloadn (pc := 0) (i0 := 0) (j := 0) (dK D_FP_setClosing 0 rfl) rfl rfl ?_
  refine g_iloadn (pc := 1) (i0 := 1) (j := 1) (dK D_FP_setClosing 1 rfl) rfl rfl ?_
  refine bnE h (fun p1 e_p1 h => ?_)
  refine vg_cV (pc := 2) (As := [V a1]) (rest := []) (mc' := 1) (ms' := 6) (dK D_FP_setClosing 2 rfl) K_FP_223 (fitK rfl) (ltK rfl) hc0 rfl (leK rfl) (leK rfl) (leK rfl) (tf_FP_needForm hfl hc0 ha1 e_p1) (kcT hfl (fun he10 => kcU ?_) (fun he10 => ⟨rfl, ?_⟩))
  · replace h := ifP h he10
    refine g_iloadn (pc := 5) (i0 := 2) (j := 2) (dK D_FP_setClosing 3 rfl) rfl rfl ?_
    refine vg_iconst (pc := 6) (dK D_FP_setClosing 4 rfl) ?_
    refine vg_icmp_lt (pc := 7) (t := 17) (dK D_FP_setClosing 5 rfl) rfl ha2 (inRk rfl) (fun hc9 => ?_) (fun hc9 => ?_)
    · replace h := ifP h hc9
      exact vg_throwW hfl (pc := 17) TH_FP_148_270 (dK D_FP_setClosing 9 rfl) (dK D_FP_setClosing 10 rfl) (dK D_FP_setClosing 11 rfl) (dK D_FP_setClosing 12 rfl) (dK D_FP_setClosing 13 rfl) rfl (leK rfl) (leK rfl) (leK rfl) (leK rfl) (leK rfl) (by obtain rfl := Option.some.inj h; exact KT_thr (e := 2) (by decide))
    · replace h := ifN h hc9
      refine g_iloadn (pc := 10) (i0 := 2) (j := 2) (dK D_FP_setClosing 6 rfl) rfl rfl ?_
      refine vg_sipush (pc := 11) (dK D_FP_setClosing 7 rfl) rfl ?_
      refine vg_icmp_le (pc := 14) (t := 28) (dK D_FP_setClosing 8 rfl) rfl ha2 (inRk rfl) (fun hc8 => ?_) (fun hc8 => ?_)
      · replace h := ifP h hc8
        refine g_aloadn (pc := 28) (i0 := 0) (j := 0) (dK D_FP_setClosing 14 rfl) rfl rfl ?_
        refine vg_getO (pc := 29) (ci := 10) (f := 3) (dK D_FP_setClosing 15 rfl) q_425 hc0 (ltK rfl) (ltK rfl) rfl ?_
        refine vg_getO (pc := 32) (ci := 4) (f := 0) (dK D_FP_setClosing 16 rfl) q_292 (hw_10_3 hc0) (ltK rfl) (ltK rfl) rfl ?_
        refine vg_getO (pc := 35) (ci := 8) (f := 3) (dK D_FP_setClosing 17 rfl) q_237 (hw_4_0 (hw_10_3 hc0)) (ltK rfl) (ltK rfl) rfl ?_
        refine g_astoren (pc := 38) (i0 := 3) (ls2 := [(3, .ref (tgt (tgt (tgt c0 3) 0) 3)), (0, .ref c0), (1, V a1), (2, V a2)]) (dK D_FP_setClosing 18 rfl) rfl (ltK rfl) rfl ?_
        refine g_aloadn (pc := 39) (i0 := 3) (j := 0) (dK D_FP_setClosing 19 rfl) rfl rfl ?_
        refine vg_getA (pc := 40) (ci := 2) (f := 1) (dK D_FP_setClosing 20 rfl) q_207 (hw_8_3 (hw_4_0 (hw_10_3 hc0))) (ltK rfl) (ltK rfl) rfl ?_
        refine g_iloadn (pc := 43) (i0 := 1) (j := 2) (dK D_FP_setClosing 21 rfl) rfl rfl ?_
        refine gdE h (fun hi2 h => ?_)
        refine vg_iaload (pc := 44) (j := a1.toNat) (dK D_FP_setClosing 22 rfl) (hw_2_1 (hw_8_3 (hw_4_0 (hw_10_3 hc0)))) rfl hi2 rfl ?_
        refine vg_iconst (pc := 45) (dK D_FP_setClosing 23 rfl) ?_
        refine vg_icmp_ne (pc := 46) (t := 52) (dK D_FP_setClosing 24 rfl) rfl (g_in _ _ _) (inRk rfl) (fun hc7 => ?_) (fun hc7 => ?_)
        · replace h := ifN h hc7
          refine g_aloadn (pc := 52) (i0 := 0) (j := 1) (dK D_FP_setClosing 27 rfl) rfl rfl ?_
          refine vg_getO (pc := 53) (ci := 10) (f := 4) (dK D_FP_setClosing 28 rfl) q_426 hc0 (ltK rfl) (ltK rfl) rfl ?_
          refine g_aloadn (pc := 56) (i0 := 0) (j := 1) (dK D_FP_setClosing 29 rfl) rfl rfl ?_
          refine vg_getO (pc := 57) (ci := 10) (f := 3) (dK D_FP_setClosing 30 rfl) q_425 hc0 (ltK rfl) (ltK rfl) rfl ?_
          refine vg_getO (pc := 60) (ci := 4) (f := 0) (dK D_FP_setClosing 31 rfl) q_292 (hw_10_3 hc0) (ltK rfl) (ltK rfl) rfl ?_
          refine bnE h (fun p3 e_p3 h => ?_)
          refine vg_cV (pc := 63) (As := [.ref (tgt (tgt c0 3) 0)]) (rest := []) (mc' := 0) (ms' := 0) (dK D_FP_setClosing 32 rfl) K_FP_155 (fitK rfl) (ltK rfl) (hw_10_4 hc0) rfl (leK rfl) (leK rfl) (leK rfl) (tf_History_keep (hw_10_4 hc0) (hw_4_0 (hw_10_3 hc0)) e_p3) (kcU ?_)
          refine g_aloadn (pc := 66) (i0 := 3) (j := 0) (dK D_FP_setClosing 33 rfl) rfl rfl ?_
          refine vg_getA (pc := 67) (ci := 2) (f := 2) (dK D_FP_setClosing 34 rfl) q_212 (hw_8_3 (hw_4_0 (hw_10_3 hc0))) (ltK rfl) (ltK rfl) rfl ?_
          refine g_iloadn (pc := 70) (i0 := 1) (j := 2) (dK D_FP_setClosing 35 rfl) rfl rfl ?_
          refine vg_iaload (pc := 71) (j := a1.toNat) (dK D_FP_setClosing 36 rfl) (hw_2_2 (hw_8_3 (hw_4_0 (hw_10_3 hc0)))) rfl hi2 rfl ?_
          refine g_istore (pc := 72) (ls2 := [(4, V (g p3 (tgt (tgt (tgt (tgt c0 3) 0) 3) 2) a1.toNat)), (3, .ref (tgt (tgt (tgt c0 3) 0) 3)), (0, .ref c0), (1, V a1), (2, V a2)]) (dK D_FP_setClosing 37 rfl) (ltK rfl) rfl ?_
          refine g_aloadn (pc := 74) (i0 := 3) (j := 1) (dK D_FP_setClosing 38 rfl) rfl rfl ?_
          refine vg_getA (pc := 75) (ci := 2) (f := 2) (dK D_FP_setClosing 39 rfl) q_212 (hw_8_3 (hw_4_0 (hw_10_3 hc0))) (ltK rfl) (ltK rfl) rfl ?_
          refine g_iloadn (pc := 78) (i0 := 1) (j := 3) (dK D_FP_setClosing 40 rfl) rfl rfl ?_
          refine g_iloadn (pc := 79) (i0 := 2) (j := 4) (dK D_FP_setClosing 41 rfl) rfl rfl ?_
          refine nmE h (fun S4 e_S4 h => ?_)
          refine vg_iastore (pc := 80) (z := a2) (dK D_FP_setClosing 42 rfl) (hw_2_2 (hw_8_3 (hw_4_0 (hw_10_3 hc0)))) rfl hi2 rfl e_S4 ?_
          refine g_aloadn (pc := 81) (i0 := 0) (j := 2) (dK D_FP_setClosing 43 rfl) rfl rfl ?_
          refine vg_getO (pc := 82) (ci := 10) (f := 3) (dK D_FP_setClosing 44 rfl) q_425 hc0 (ltK rfl) (ltK rfl) rfl ?_
          refine bnE h (fun p5 e_p5 h => ?_)
          refine vg_cV (pc := 85) (As := []) (rest := []) (mc' := 0) (ms' := 0) (dK D_FP_setClosing 45 rfl) K_FP_272 (fitK rfl) (ltK rfl) (hw_10_3 hc0) rfl (leK rfl) (leK rfl) (leK rfl) (tf_Plan_closeDueForms (hw_10_3 hc0) e_p5) (kcI (fun h_p5 => ?_))
          refine g_pop (pc := 88) (dK D_FP_setClosing 46 rfl) rfl ?_
          refine g_iload (pc := 89) (j := 0) (dK D_FP_setClosing 47 rfl) rfl ?_
          refine bnE h (fun p6 e_p6 h => ?_)
          refine vg_cS (pc := 91) (As := [V (g p3 (tgt (tgt (tgt (tgt c0 3) 0) 3) 2) a1.toNat)]) (rest := []) (mc' := 0) (ms' := 0) (dK D_FP_setClosing 48 rfl) K_FP_185 (fitK rfl) rfl (leK rfl) (leK rfl) (leK rfl) (tf_FP_orNone (g_in _ _ _) e_p6) (kcI (fun h_p6 => ?_))
          exact vg_iretI (pc := 94) (r := p6) (dK D_FP_setClosing 49 rfl) rfl (leK rfl) (leK rfl) (xf hfl) (by obtain rfl := Option.some.inj h; exact KT_ok ⟨rfl, h_p6, rfl⟩)
        · replace h := ifP h hc7
          refine vg_bipush (pc := 49) (dK D_FP_setClosing 25 rfl) rfl ?_
          exact vg_iretI (pc := 51) (r := (-4)) (dK D_FP_setClosing 26 rfl) rfl (leK rfl) (leK rfl) (xf hfl) (by obtain rfl := Option.some.inj h; exact KT_ok ⟨rfl, (inRk rfl), rfl⟩)
      · replace h := ifN h hc8
        exact vg_throwW hfl (pc := 17) TH_FP_148_270 (dK D_FP_setClosing 9 rfl) (dK D_FP_setClosing 10 rfl) (dK D_FP_setClosing 11 rfl) (dK D_FP_setClosing 12 rfl) (dK D_FP_setClosing 13 rfl) rfl (leK rfl) (leK rfl) (leK rfl) (leK rfl) (leK rfl) (by obtain rfl := Option.some.inj h; exact KT_thr (e := 2) (by decide))
  · replace h := ifN h he10
    obtain rfl := Option.some.inj h
    exact KT_thr he10
def fn_Law_setClosing (c0 : Nat) (a1 : Int) (a2 : Int) (c3 : Nat) (S : St) : Option (Int × St) := bnO (fn_FP_setClosing c0 a1 a2 S) fun p1 => if p1.1 = 0 then (nm (ul p1.2.2 c3 0 p1.2.1) fun S2 => some (0, S2)) else (if p1.1 = 1 then (some (1, p1.2.2)) else (if p1.1 = 2 then (some (2, p1.2.2)) else none))
theorem tf_Law_setClosing {E : EV} {X : XT} (hfl : X.2.2.2 = false) {c0 : Nat} (hc0 : HC X 10 c0) {a1 : Int} (ha1 : inR a1) {a2 : Int} (ha2 : inR a2) {c3 : Nat} (hc3 : HA X 3 1 c3) {S : St} {q : Int × St} (h : fn_Law_setClosing c0 a1 a2 c3 S = some q) : EvH E M_Law_setClosing [.ref c0, V a1, V a2, .ref c3] (WX X S) 2 12 (KI X q.1 q.2) := by
  refine EvH.of pn_Law (leK rfl) ?_
  show Go E M_Law_setClosing 2 12 0 [(0, .ref c0), (1, V a1), (2, V a2), (3, .ref c3)] [] (WX X S) 0 0 (KI X q.1 q.2)
  unfold fn_Law_setClosing at h
  refine g_aloadn (pc := 0) (i0 := 3) (j := 3) (dK D_Law_setClosing 0 rfl) rfl rfl ?_
  refine vg_iconst (pc := 1) (dK D_Law_setClosing 1 rfl) ?_
  refine g_aloadn (pc := 2) (i0 := 0) (j := 0) (dK D_Law_setClosing 2 rfl) rfl rfl ?_
  refine g_iloadn (pc := 3) (i0 := 1) (j := 1) (dK D_Law_setClosing 3 rfl) rfl rfl ?_
  refine g_iloadn (pc := 4) (i0 := 2) (j := 2) (dK D_Law_setClosing 4 rfl) rfl rfl ?_
  refine bnE h (fun p1 e_p1 h => ?_)
  refine vg_cVX hfl (pc := 5) (As := [V a1, V a2]) (rest := [V 0, .ref c3]) (mc' := 2) (ms' := 12) (dK D_Law_setClosing 5 rfl) K_Law_79 (fitK rfl) (ltK rfl) hc0 rfl (leK rfl) (leK rfl) (leK rfl) (tf_FP_setClosing hfl hc0 ha1 ha2 e_p1) (kxT hfl (fun he3 => kxI hfl (fun h_p1 => ?_)) (fun he3 => ?_))
  · replace h := ifP h he3
    refine vg_i2l (pc := 8) (dK D_Law_setClosing 6 rfl) h_p1 ?_
    refine nmE h (fun S2 e_S2 h => ?_)
    refine vg_lastore (pc := 9) (z := p1.2.1) (dK D_Law_setClosing 7 rfl) hc3 rfl ⟨by decide, by decide⟩ rfl e_S2 ?_
    refine g_goto (pc := 10) (tgt := 21) (dK D_Law_setClosing 8 rfl) rfl ?_
    refine vg_iconst (pc := 21) (dK D_Law_setClosing 15 rfl) ?_
    exact vg_iretI (pc := 22) (r := 0) (dK D_Law_setClosing 16 rfl) rfl (leK rfl) (leK rfl) (xf hfl) (by obtain rfl := Option.some.inj h; exact ⟨rfl, (inRk rfl), rfl⟩)
  · replace h := ifN h he3
    by_cases hq5 : p1.1 = 1
    · have h := ifP h hq5
      rw [hq5]
      exact ⟨_, CT_Law_setClosing_5_1, (by obtain rfl := Option.some.inj h; exact ⟨rfl, (inRk rfl), rfl⟩)⟩
    · replace h := ifN h hq5
      by_cases hq4 : p1.1 = 2
      · have h := ifP h hq4
        rw [hq4]
        exact ⟨_, CT_Law_setClosing_5_2, (by obtain rfl := Option.some.inj h; exact ⟨rfl, (inRk rfl), rfl⟩)⟩
      · replace h := ifN h hq4
        exact nomatch h
def lb_FP_pass_62 (c0 : Nat) (a1 : Int) (go : Int × Int × St → Option (Int × St)) (a2 : Int) (a3 : Int) (S : St) : Option (Int × St) := if a1 ≤ a3 then (some (a2, S)) else (nm (u S (tgt (tgt c0 3) 0) 6 ((g S (tgt (tgt c0 3) 0) 6) + 1)) fun S3 => bnO (fn_Plan_closeDueForms (tgt c0 3) S3) fun p4 => nm (wr (a2 + p4.1)) fun v5 => nm (wr (a3 + 1)) fun v6 => go (v5, v6, p4.2))
def lo_FP_pass_62 (c0 : Nat) (a1 : Int) : Nat → Int × Int × St → Option (Int × St) := lp fun go p => lb_FP_pass_62 c0 a1 go p.1 p.2.1 p.2.2
theorem tl_FP_pass_62 {E : EV} {X : XT} (hfl : X.2.2.2 = false) {c0 : Nat} (hc0 : HC X 10 c0) {a1 : Int} (ha1 : inR a1) {K : RK → PS → Prop} {q : Int × St} (hx : inR q.1 → Go E M_FP_pass 1 6 99 [(2, V q.1)] [] (WX X q.2) 0 0 K) : ∀ n a, lo_FP_pass_62 c0 a1 n a = some q → inR a.1 → inR a.2.1 → Go E M_FP_pass 1 6 62 [(0, .ref c0), (1, V a1), (2, V a.1), (3, V a.2.1)] [] (WX X a.2.2) 0 0 K := by
  refine lp_ind (P := fun a : Int × Int × St => inR a.1 → inR a.2.1 → Go E M_FP_pass 1 6 62 [(0, .ref c0), (1, V a1), (2, V a.1), (3, V a.2.1)] [] (WX X a.2.2) 0 0 K) (fun go ih a h => ?_)
  obtain ⟨a2, a3, S⟩ := a
  intro ha2 ha3
  show Go E M_FP_pass 1 6 62 [(0, .ref c0), (1, V a1), (2, V a2), (3, V a3)] [] (WX X S) 0 0 K
  replace h : lb_FP_pass_62 c0 a1 go a2 a3 S = some q := h
  unfold lb_FP_pass_62 at h
  refine g_iloadn (pc := 62) (i0 := 3) (j := 3) (dK D_FP_pass_0 31 rfl) rfl rfl ?_
  refine g_iloadn (pc := 63) (i0 := 1) (j := 1) (dK D_FP_pass_0 32 rfl) rfl rfl ?_
  refine vg_icmp_ge (pc := 64) (t := 99) (dK D_FP_pass_0 33 rfl) rfl ha3 ha1 (fun hc7 => ?_) (fun hc7 => ?_)
  · replace h := ifP h hc7
    obtain rfl := Option.some.inj h
    refine gL_weak (ls' := [(2, V a2)]) (sbc 2 rfl sbn) ?_
    exact hx ha2
  · replace h := ifN h hc7
    refine g_aloadn (pc := 67) (i0 := 0) (j := 0) (dK D_FP_pass_0 34 rfl) rfl rfl ?_
    refine vg_getO (pc := 68) (ci := 10) (f := 3) (dK D_FP_pass_0 35 rfl) q_425 hc0 (ltK rfl) (ltK rfl) rfl ?_
    refine vg_getO (pc := 71) (ci := 4) (f := 0) (dK D_FP_pass_0 36 rfl) q_292 (hw_10_3 hc0) (ltK rfl) (ltK rfl) rfl ?_
    refine g_dup (pc := 74) (dK D_FP_pass_0 37 rfl) rfl ?_
    refine vg_getI (pc := 75) (ci := 8) (f := 6) (dK D_FP_pass_0 38 rfl) q_247 (hw_4_0 (hw_10_3 hc0)) (ltK rfl) (ltK rfl) rfl ?_
    refine vg_iconst (pc := 78) (dK D_FP_pass_0 39 rfl) ?_
    refine vg_iadd (pc := 79) (dK D_FP_pass_0 40 rfl) ?_
    refine nmE h (fun S3 e_S3 h => ?_)
    refine vg_putI (pc := 80) (ci := 8) (f := 6) (z := ((g S (tgt (tgt c0 3) 0) 6) + 1)) (dK D_FP_pass_0 41 rfl) q_247 (hw_4_0 (hw_10_3 hc0)) (ltK rfl) (ltK rfl) rfl rfl e_S3 ?_
    refine g_iloadn (pc := 83) (i0 := 2) (j := 2) (dK D_FP_pass_0 42 rfl) rfl rfl ?_
    refine g_aloadn (pc := 84) (i0 := 0) (j := 0) (dK D_FP_pass_0 43 rfl) rfl rfl ?_
    refine vg_getO (pc := 85) (ci := 10) (f := 3) (dK D_FP_pass_0 44 rfl) q_425 hc0 (ltK rfl) (ltK rfl) rfl ?_
    refine bnE h (fun p4 e_p4 h => ?_)
    refine vg_cV (pc := 88) (As := []) (rest := [V a2]) (mc' := 0) (ms' := 0) (dK D_FP_pass_0 45 rfl) K_FP_272 (fitK rfl) (ltK rfl) (hw_10_3 hc0) rfl (leK rfl) (leK rfl) (leK rfl) (tf_Plan_closeDueForms (hw_10_3 hc0) e_p4) (kcI (fun h_p4 => ?_))
    refine vg_iadd (pc := 91) (dK D_FP_pass_0 46 rfl) ?_
    refine nmE h (fun v5 e_v5 h => ?_)
    refine gtop e_v5 ?_
    refine g_istoren (pc := 92) (i0 := 2) (ls2 := [(2, V v5), (0, .ref c0), (1, V a1), (3, V a3)]) (dK D_FP_pass_0 47 rfl) rfl (ltK rfl) rfl ?_
    refine nmE h (fun v6 e_v6 h => ?_)
    refine vg_iinc (pc := 93) (j := 3) (a := a3) (z := 1) (ls2 := [(3, V v6), (2, V v5), (0, .ref c0), (1, V a1)]) (dK D_FP_pass_0 48 rfl) rfl e_v6 (ltK rfl) rfl ?_
    refine g_goto (pc := 96) (tgt := 62) (dK D_FP_pass_0 49 rfl) rfl ?_
    refine gL_weak (ls' := [(0, .ref c0), (1, V a1), (2, V v5), (3, V v6)]) (sbc 2 rfl (sbc 3 rfl (sbc 1 rfl (sbc 0 rfl sbn)))) ?_
    replace h := ih _ h
    exact h (Vn_in e_v5) (Vn_in e_v6)
def fn_FP_pass (c0 : Nat) (a1 : Int) (S : St) : Option (Nat × Int × St) := if a1 < 1 then (some (2, 0, S)) else (if a1 ≤ 500 then (nm (wr ((g S (tgt (tgt c0 3) 0) 6) + a1)) fun v1 => if v1 ≤ 9999 then (bnO (fn_History_keep (tgt c0 4) (tgt (tgt c0 3) 0) S) fun p2 => bnO (lo_FP_pass_62 c0 a1 FU (0, 0, p2)) fun p8 => some (0, p8.1, p8.2)) else (some (0, (-2), S))) else (some (2, 0, S)))
theorem tf_FP_pass {E : EV} {X : XT} (hfl : X.2.2.2 = false) {c0 : Nat} (hc0 : HC X 10 c0) {a1 : Int} (ha1 : inR a1) {S : St} {q : Nat × Int × St} (h : fn_FP_pass c0 a1 S = some q) : Ev E M_FP_pass [.ref c0, V a1] (WX X S) 1 6 (KT X q.1 q.2.2 (KI X q.2.1 q.2.2)) := by
  refine Ev.of pn_FP rfl (leK rfl) ?_
  show Go E M_FP_pass 1 6 0 [(0, .ref c0), (1, V a1)] [] (WX X S) 0 0 (KT X q.1 q.2.2 (KI X q.2.1 q.2.2))
  unfold fn_FP_pass at h
  refine g_iloadn (pc := 0) (i0 := 1) (j := 1) (dK D_FP_pass_0 0 rfl) rfl rfl ?_
  refine vg_iconst (pc := 1) (dK D_FP_pass_0 1 rfl) ?_
  refine vg_icmp_lt (pc := 2) (t := 12) (dK D_FP_pass_0 2 rfl) rfl ha1 (inRk rfl) (fun hc11 => ?_) (fun hc11 => ?_)
  · replace h := ifP h hc11
    exact vg_throwW hfl (pc := 12) TH_FP_148_275 (dK D_FP_pass_0 6 rfl) (dK D_FP_pass_0 7 rfl) (dK D_FP_pass_0 8 rfl) (dK D_FP_pass_0 9 rfl) (dK D_FP_pass_0 10 rfl) rfl (leK rfl) (leK rfl) (leK rfl) (leK rfl) (leK rfl) (by obtain rfl := Option.some.inj h; exact KT_thr (e := 2) (by decide))
  · replace h := ifN h hc11
    refine g_iloadn (pc := 5) (i0 := 1) (j := 1) (dK D_FP_pass_0 3 rfl) rfl rfl ?_
    refine vg_sipush (pc := 6) (dK D_FP_pass_0 4 rfl) rfl ?_
    refine vg_icmp_le (pc := 9) (t := 23) (dK D_FP_pass_0 5 rfl) rfl ha1 (inRk rfl) (fun hc10 => ?_) (fun hc10 => ?_)
    · replace h := ifP h hc10
      refine g_aloadn (pc := 23) (i0 := 0) (j := 0) (dK D_FP_pass_0 11 rfl) rfl rfl ?_
      refine vg_getO (pc := 24) (ci := 10) (f := 3) (dK D_FP_pass_0 12 rfl) q_425 hc0 (ltK rfl) (ltK rfl) rfl ?_
      refine vg_getO (pc := 27) (ci := 4) (f := 0) (dK D_FP_pass_0 13 rfl) q_292 (hw_10_3 hc0) (ltK rfl) (ltK rfl) rfl ?_
      refine vg_getI (pc := 30) (ci := 8) (f := 6) (dK D_FP_pass_0 14 rfl) q_247 (hw_4_0 (hw_10_3 hc0)) (ltK rfl) (ltK rfl) rfl ?_
      refine g_iloadn (pc := 33) (i0 := 1) (j := 1) (dK D_FP_pass_0 15 rfl) rfl rfl ?_
      refine vg_iadd (pc := 34) (dK D_FP_pass_0 16 rfl) ?_
      refine vg_sipush (pc := 35) (dK D_FP_pass_0 17 rfl) rfl ?_
      refine nmE h (fun v1 e_v1 h => ?_)
      refine gsk (st' := [V 9999, V v1]) (by rw [Vn e_v1]) ?_
      refine vg_icmp_le (pc := 38) (t := 44) (dK D_FP_pass_0 18 rfl) rfl (Vn_in e_v1) (inRk rfl) (fun hc9 => ?_) (fun hc9 => ?_)
      · replace h := ifP h hc9
        refine g_aloadn (pc := 44) (i0 := 0) (j := 0) (dK D_FP_pass_0 21 rfl) rfl rfl ?_
        refine vg_getO (pc := 45) (ci := 10) (f := 4) (dK D_FP_pass_0 22 rfl) q_426 hc0 (ltK rfl) (ltK rfl) rfl ?_
        refine g_aloadn (pc := 48) (i0 := 0) (j := 0) (dK D_FP_pass_0 23 rfl) rfl rfl ?_
        refine vg_getO (pc := 49) (ci := 10) (f := 3) (dK D_FP_pass_0 24 rfl) q_425 hc0 (ltK rfl) (ltK rfl) rfl ?_
        refine vg_getO (pc := 52) (ci := 4) (f := 0) (dK D_FP_pass_0 25 rfl) q_292 (hw_10_3 hc0) (ltK rfl) (ltK rfl) rfl ?_
        refine bnE h (fun p2 e_p2 h => ?_)
        refine vg_cV (pc := 55) (As := [.ref (tgt (tgt c0 3) 0)]) (rest := []) (mc' := 0) (ms' := 0) (dK D_FP_pass_0 26 rfl) K_FP_155 (fitK rfl) (ltK rfl) (hw_10_4 hc0) rfl (leK rfl) (leK rfl) (leK rfl) (tf_History_keep (hw_10_4 hc0) (hw_4_0 (hw_10_3 hc0)) e_p2) (kcU ?_)
        refine vg_iconst (pc := 58) (dK D_FP_pass_0 27 rfl) ?_
        refine g_istoren (pc := 59) (i0 := 2) (ls2 := [(2, V 0), (0, .ref c0), (1, V a1)]) (dK D_FP_pass_0 28 rfl) rfl (ltK rfl) rfl ?_
        refine vg_iconst (pc := 60) (dK D_FP_pass_0 29 rfl) ?_
        refine g_istoren (pc := 61) (i0 := 3) (ls2 := [(3, V 0), (2, V 0), (0, .ref c0), (1, V a1)]) (dK D_FP_pass_0 30 rfl) rfl (ltK rfl) rfl ?_
        refine bnE h (fun p8 e_p8 h => ?_)
        refine gL_weak (ls' := [(0, .ref c0), (1, V a1), (2, V 0), (3, V 0)]) (sbc 2 rfl (sbc 3 rfl (sbc 1 rfl (sbc 0 rfl sbn)))) ?_
        refine tl_FP_pass_62 hfl hc0 ha1 (fun hx2_p8 => ?_) FU (0, 0, p2) e_p8 (inRk rfl) (inRk rfl)
        refine g_iloadn (pc := 99) (i0 := 2) (j := 0) (dK D_FP_pass_1 0 rfl) rfl rfl ?_
        exact vg_iretI (pc := 100) (r := p8.1) (dK D_FP_pass_1 1 rfl) rfl (leK rfl) (leK rfl) (xf hfl) (by obtain rfl := Option.some.inj h; exact KT_ok ⟨rfl, hx2_p8, rfl⟩)
      · replace h := ifN h hc9
        refine vg_bipush (pc := 41) (dK D_FP_pass_0 19 rfl) rfl ?_
        exact vg_iretI (pc := 43) (r := (-2)) (dK D_FP_pass_0 20 rfl) rfl (leK rfl) (leK rfl) (xf hfl) (by obtain rfl := Option.some.inj h; exact KT_ok ⟨rfl, (inRk rfl), rfl⟩)
    · replace h := ifN h hc10
      exact vg_throwW hfl (pc := 12) TH_FP_148_275 (dK D_FP_pass_0 6 rfl) (dK D_FP_pass_0 7 rfl) (dK D_FP_pass_0 8 rfl) (dK D_FP_pass_0 9 rfl) (dK D_FP_pass_0 10 rfl) rfl (leK rfl) (leK rfl) (leK rfl) (leK rfl) (leK rfl) (by obtain rfl := Option.some.inj h; exact KT_thr (e := 2) (by decide))
def fn_Law_pass (c0 : Nat) (a1 : Int) (c2 : Nat) (S : St) : Option (Int × St) := bnO (fn_FP_pass c0 a1 S) fun p1 => if p1.1 = 0 then (nm (ul p1.2.2 c2 0 p1.2.1) fun S2 => some (0, S2)) else (if p1.1 = 2 then (some (1, p1.2.2)) else none)
theorem tf_Law_pass {E : EV} {X : XT} (hfl : X.2.2.2 = false) {c0 : Nat} (hc0 : HC X 10 c0) {a1 : Int} (ha1 : inR a1) {c2 : Nat} (hc2 : HA X 3 1 c2) {S : St} {q : Int × St} (h : fn_Law_pass c0 a1 c2 S = some q) : EvH E M_Law_pass [.ref c0, V a1, .ref c2] (WX X S) 1 6 (KI X q.1 q.2) := by
  refine EvH.of pn_Law (leK rfl) ?_
  show Go E M_Law_pass 1 6 0 [(0, .ref c0), (1, V a1), (2, .ref c2)] [] (WX X S) 0 0 (KI X q.1 q.2)
  unfold fn_Law_pass at h
  refine g_aloadn (pc := 0) (i0 := 2) (j := 2) (dK D_Law_pass 0 rfl) rfl rfl ?_
  refine vg_iconst (pc := 1) (dK D_Law_pass 1 rfl) ?_
  refine g_aloadn (pc := 2) (i0 := 0) (j := 0) (dK D_Law_pass 2 rfl) rfl rfl ?_
  refine g_iloadn (pc := 3) (i0 := 1) (j := 1) (dK D_Law_pass 3 rfl) rfl rfl ?_
  refine bnE h (fun p1 e_p1 h => ?_)
  refine vg_cVX hfl (pc := 4) (As := [V a1]) (rest := [V 0, .ref c2]) (mc' := 1) (ms' := 6) (dK D_Law_pass 4 rfl) K_Law_82 (fitK rfl) (ltK rfl) hc0 rfl (leK rfl) (leK rfl) (leK rfl) (tf_FP_pass hfl hc0 ha1 e_p1) (kxT hfl (fun he3 => kxI hfl (fun h_p1 => ?_)) (fun he3 => ?_))
  · replace h := ifP h he3
    refine vg_i2l (pc := 7) (dK D_Law_pass 5 rfl) h_p1 ?_
    refine nmE h (fun S2 e_S2 h => ?_)
    refine vg_lastore (pc := 8) (z := p1.2.1) (dK D_Law_pass 6 rfl) hc2 rfl ⟨by decide, by decide⟩ rfl e_S2 ?_
    refine g_goto (pc := 9) (tgt := 15) (dK D_Law_pass 7 rfl) rfl ?_
    refine vg_iconst (pc := 15) (dK D_Law_pass 11 rfl) ?_
    exact vg_iretI (pc := 16) (r := 0) (dK D_Law_pass 12 rfl) rfl (leK rfl) (leK rfl) (xf hfl) (by obtain rfl := Option.some.inj h; exact ⟨rfl, (inRk rfl), rfl⟩)
  · replace h := ifN h he3
    by_cases hq4 : p1.1 = 2
    · have h := ifP h hq4
      rw [hq4]
      exact ⟨_, CT_Law_pass_4_2, (by obtain rfl := Option.some.inj h; exact ⟨rfl, (inRk rfl), rfl⟩)⟩
    · replace h := ifN h hq4
      exact nomatch h
def fn_FP_print (c0 : Nat) (a1 : Int) (S : St) : Option (Nat × Int × St) := bnO (fn_FP_needForm c0 a1 S) fun p1 => if p1 = 0 then (if 0 ≤ a1 ∧ a1 < 8 then (if (g S (tgt (tgt (tgt (tgt c0 3) 0) 3) 1) a1.toNat) = 1 then (some (0, (-4), S)) else (bnO (fn_Plan_lateOnForm (tgt c0 3) a1 S) fun p3 => if p3 ≤ 0 then (bnO (fn_History_keep (tgt c0 4) (tgt (tgt c0 3) 0) S) fun p4 => nm (u p4 (tgt (tgt (tgt (tgt c0 3) 0) 3) 1) a1.toNat 1) fun S5 => bnO (fn_Plan_leftOnForm (tgt c0 3) a1 S5) fun p6 => some (0, p6, S5)) else (some (0, (-4), S)))) else none) else (some (p1, 0, S))
theorem tf_FP_print {E : EV} {X : XT} (hfl : X.2.2.2 = false) {c0 : Nat} (hc0 : HC X 10 c0) {a1 : Int} (ha1 : inR a1) {S : St} {q : Nat × Int × St} (h : fn_FP_print c0 a1 S = some q) : Ev E M_FP_print [.ref c0, V a1] (WX X S) 1 6 (KT X q.1 q.2.2 (KI X q.2.1 q.2.2)) := by
  refine Ev.of pn_FP rfl (leK rfl) ?_
  show Go E M_FP_print 1 6 0 [(0, .ref c0), (1, V a1)] [] (WX X S) 0 0 (KT X q.1 q.2.2 (KI X q.2.1 q.2.2))
  unfold fn_FP_print at h
  refine g_aloadn (pc := 0) (i0 := 0) (j := 0) (dK D_FP_print 0 rfl) rfl rfl ?_
  refine g_iloadn (pc := 1) (i0 := 1) (j := 1) (dK D_FP_print 1 rfl) rfl rfl ?_
  refine bnE h (fun p1 e_p1 h => ?_)
  refine vg_cV (pc := 2) (As := [V a1]) (rest := []) (mc' := 1) (ms' := 6) (dK D_FP_print 2 rfl) K_FP_223 (fitK rfl) (ltK rfl) hc0 rfl (leK rfl) (leK rfl) (leK rfl) (tf_FP_needForm hfl hc0 ha1 e_p1) (kcT hfl (fun he9 => kcU ?_) (fun he9 => ⟨rfl, ?_⟩))
  · replace h := ifP h he9
    refine g_aloadn (pc := 5) (i0 := 0) (j := 0) (dK D_FP_print 3 rfl) rfl rfl ?_
    refine vg_getO (pc := 6) (ci := 10) (f := 3) (dK D_FP_print 4 rfl) q_425 hc0 (ltK rfl) (ltK rfl) rfl ?_
    refine vg_getO (pc := 9) (ci := 4) (f := 0) (dK D_FP_print 5 rfl) q_292 (hw_10_3 hc0) (ltK rfl) (ltK rfl) rfl ?_
    refine vg_getO (pc := 12) (ci := 8) (f := 3) (dK D_FP_print 6 rfl) q_237 (hw_4_0 (hw_10_3 hc0)) (ltK rfl) (ltK rfl) rfl ?_
    refine vg_getA (pc := 15) (ci := 2) (f := 1) (dK D_FP_print 7 rfl) q_207 (hw_8_3 (hw_4_0 (hw_10_3 hc0))) (ltK rfl) (ltK rfl) rfl ?_
    refine g_iloadn (pc := 18) (i0 := 1) (j := 1) (dK D_FP_print 8 rfl) rfl rfl ?_
    refine gdE h (fun hi2 h => ?_)
    refine vg_iaload (pc := 19) (j := a1.toNat) (dK D_FP_print 9 rfl) (hw_2_1 (hw_8_3 (hw_4_0 (hw_10_3 hc0)))) rfl hi2 rfl ?_
    refine vg_iconst (pc := 20) (dK D_FP_print 10 rfl) ?_
    refine vg_icmp_eq (pc := 21) (t := 35) (dK D_FP_print 11 rfl) rfl (g_in _ _ _) (inRk rfl) (fun hc8 => ?_) (fun hc8 => ?_)
    · replace h := ifP h hc8
      refine vg_bipush (pc := 35) (dK D_FP_print 17 rfl) rfl ?_
      exact vg_iretI (pc := 37) (r := (-4)) (dK D_FP_print 18 rfl) rfl (leK rfl) (leK rfl) (xf hfl) (by obtain rfl := Option.some.inj h; exact KT_ok ⟨rfl, (inRk rfl), rfl⟩)
    · replace h := ifN h hc8
      refine g_aloadn (pc := 24) (i0 := 0) (j := 0) (dK D_FP_print 12 rfl) rfl rfl ?_
      refine vg_getO (pc := 25) (ci := 10) (f := 3) (dK D_FP_print 13 rfl) q_425 hc0 (ltK rfl) (ltK rfl) rfl ?_
      refine g_iloadn (pc := 28) (i0 := 1) (j := 1) (dK D_FP_print 14 rfl) rfl rfl ?_
      refine bnE h (fun p3 e_p3 h => ?_)
      refine vg_cV (pc := 29) (As := [V a1]) (rest := []) (mc' := 0) (ms' := 0) (dK D_FP_print 15 rfl) K_FP_238 (fitK rfl) (ltK rfl) (hw_10_3 hc0) rfl (leK rfl) (leK rfl) (leK rfl) (tf_Plan_lateOnForm (hw_10_3 hc0) ha1 e_p3) (kcI (fun h_p3 => ?_))
      refine vg_if_le (pc := 32) (t := 38) (dK D_FP_print 16 rfl) rfl h_p3 (fun hc7 => ?_) (fun hc7 => ?_)
      · replace h := ifP h hc7
        refine g_aloadn (pc := 38) (i0 := 0) (j := 0) (dK D_FP_print 19 rfl) rfl rfl ?_
        refine vg_getO (pc := 39) (ci := 10) (f := 4) (dK D_FP_print 20 rfl) q_426 hc0 (ltK rfl) (ltK rfl) rfl ?_
        refine g_aloadn (pc := 42) (i0 := 0) (j := 0) (dK D_FP_print 21 rfl) rfl rfl ?_
        refine vg_getO (pc := 43) (ci := 10) (f := 3) (dK D_FP_print 22 rfl) q_425 hc0 (ltK rfl) (ltK rfl) rfl ?_
        refine vg_getO (pc := 46) (ci := 4) (f := 0) (dK D_FP_print 23 rfl) q_292 (hw_10_3 hc0) (ltK rfl) (ltK rfl) rfl ?_
        refine bnE h (fun p4 e_p4 h => ?_)
        refine vg_cV (pc := 49) (As := [.ref (tgt (tgt c0 3) 0)]) (rest := []) (mc' := 0) (ms' := 0) (dK D_FP_print 24 rfl) K_FP_155 (fitK rfl) (ltK rfl) (hw_10_4 hc0) rfl (leK rfl) (leK rfl) (leK rfl) (tf_History_keep (hw_10_4 hc0) (hw_4_0 (hw_10_3 hc0)) e_p4) (kcU ?_)
        refine g_aloadn (pc := 52) (i0 := 0) (j := 0) (dK D_FP_print 25 rfl) rfl rfl ?_
        refine vg_getO (pc := 53) (ci := 10) (f := 3) (dK D_FP_print 26 rfl) q_425 hc0 (ltK rfl) (ltK rfl) rfl ?_
        refine vg_getO (pc := 56) (ci := 4) (f := 0) (dK D_FP_print 27 rfl) q_292 (hw_10_3 hc0) (ltK rfl) (ltK rfl) rfl ?_
        refine vg_getO (pc := 59) (ci := 8) (f := 3) (dK D_FP_print 28 rfl) q_237 (hw_4_0 (hw_10_3 hc0)) (ltK rfl) (ltK rfl) rfl ?_
        refine vg_getA (pc := 62) (ci := 2) (f := 1) (dK D_FP_print 29 rfl) q_207 (hw_8_3 (hw_4_0 (hw_10_3 hc0))) (ltK rfl) (ltK rfl) rfl ?_
        refine g_iloadn (pc := 65) (i0 := 1) (j := 1) (dK D_FP_print 30 rfl) rfl rfl ?_
        refine vg_iconst (pc := 66) (dK D_FP_print 31 rfl) ?_
        refine nmE h (fun S5 e_S5 h => ?_)
        refine vg_iastore (pc := 67) (z := 1) (dK D_FP_print 32 rfl) (hw_2_1 (hw_8_3 (hw_4_0 (hw_10_3 hc0)))) rfl hi2 rfl e_S5 ?_
        refine g_aloadn (pc := 68) (i0 := 0) (j := 0) (dK D_FP_print 33 rfl) rfl rfl ?_
        refine vg_getO (pc := 69) (ci := 10) (f := 3) (dK D_FP_print 34 rfl) q_425 hc0 (ltK rfl) (ltK rfl) rfl ?_
        refine g_iloadn (pc := 72) (i0 := 1) (j := 1) (dK D_FP_print 35 rfl) rfl rfl ?_
        refine bnE h (fun p6 e_p6 h => ?_)
        refine vg_cV (pc := 73) (As := [V a1]) (rest := []) (mc' := 0) (ms' := 0) (dK D_FP_print 36 rfl) K_FP_232 (fitK rfl) (ltK rfl) (hw_10_3 hc0) rfl (leK rfl) (leK rfl) (leK rfl) (tf_Plan_leftOnForm (hw_10_3 hc0) ha1 e_p6) (kcI (fun h_p6 => ?_))
        exact vg_iretI (pc := 76) (r := p6) (dK D_FP_print 37 rfl) rfl (leK rfl) (leK rfl) (xf hfl) (by obtain rfl := Option.some.inj h; exact KT_ok ⟨rfl, h_p6, rfl⟩)
      · replace h := ifN h hc7
        refine vg_bipush (pc := 35) (dK D_FP_print 17 rfl) rfl ?_
        exact vg_iretI (pc := 37) (r := (-4)) (dK D_FP_print 18 rfl) rfl (leK rfl) (leK rfl) (xf hfl) (by obtain rfl := Option.some.inj h; exact KT_ok ⟨rfl, (inRk rfl), rfl⟩)
  · replace h := ifN h he9
    obtain rfl := Option.some.inj h
    exact KT_thr he9
def fn_Law_print (c0 : Nat) (a1 : Int) (c2 : Nat) (S : St) : Option (Int × St) := bnO (fn_FP_print c0 a1 S) fun p1 => if p1.1 = 0 then (nm (ul p1.2.2 c2 0 p1.2.1) fun S2 => some (0, S2)) else (if p1.1 = 1 then (some (1, p1.2.2)) else none)
theorem tf_Law_print {E : EV} {X : XT} (hfl : X.2.2.2 = false) {c0 : Nat} (hc0 : HC X 10 c0) {a1 : Int} (ha1 : inR a1) {c2 : Nat} (hc2 : HA X 3 1 c2) {S : St} {q : Int × St} (h : fn_Law_print c0 a1 c2 S = some q) : EvH E M_Law_print [.ref c0, V a1, .ref c2] (WX X S) 1 6 (KI X q.1 q.2) := by
  refine EvH.of pn_Law (leK rfl) ?_
  show Go E M_Law_print 1 6 0 [(0, .ref c0), (1, V a1), (2, .ref c2)] [] (WX X S) 0 0 (KI X q.1 q.2)
  unfold fn_Law_print at h
  refine g_aloadn (pc := 0) (i0 := 2) (j := 2) (dK D_Law_print 0 rfl) rfl rfl ?_
  refine vg_iconst (pc := 1) (dK D_Law_print 1 rfl) ?_
  refine g_aloadn (pc := 2) (i0 := 0) (j := 0) (dK D_Law_print 2 rfl) rfl rfl ?_
  refine g_iloadn (pc := 3) (i0 := 1) (j := 1) (dK D_Law_print 3 rfl) rfl rfl ?_
  refine bnE h (fun p1 e_p1 h => ?_)
  refine vg_cVX hfl (pc := 4) (As := [V a1]) (rest := [V 0, .ref c2]) (mc' := 1) (ms' := 6) (dK D_Law_print 4 rfl) K_Law_85 (fitK rfl) (ltK rfl) hc0 rfl (leK rfl) (leK rfl) (leK rfl) (tf_FP_print hfl hc0 ha1 e_p1) (kxT hfl (fun he3 => kxI hfl (fun h_p1 => ?_)) (fun he3 => ?_))
  · replace h := ifP h he3
    refine vg_i2l (pc := 7) (dK D_Law_print 5 rfl) h_p1 ?_
    refine nmE h (fun S2 e_S2 h => ?_)
    refine vg_lastore (pc := 8) (z := p1.2.1) (dK D_Law_print 6 rfl) hc2 rfl ⟨by decide, by decide⟩ rfl e_S2 ?_
    refine g_goto (pc := 9) (tgt := 15) (dK D_Law_print 7 rfl) rfl ?_
    refine vg_iconst (pc := 15) (dK D_Law_print 11 rfl) ?_
    exact vg_iretI (pc := 16) (r := 0) (dK D_Law_print 12 rfl) rfl (leK rfl) (leK rfl) (xf hfl) (by obtain rfl := Option.some.inj h; exact ⟨rfl, (inRk rfl), rfl⟩)
  · replace h := ifN h he3
    by_cases hq4 : p1.1 = 1
    · have h := ifP h hq4
      rw [hq4]
      exact ⟨_, CT_Law_print_4_1, (by obtain rfl := Option.some.inj h; exact ⟨rfl, (inRk rfl), rfl⟩)⟩
    · replace h := ifN h hq4
      exact nomatch h
def fn_FP_choices (c0 : Nat) (a1 : Int) (S : St) : Option (Nat × Int) := bnO (fn_FP_needAd c0 a1 S) fun p1 => if p1 = 0 then (bnO (fn_Searches_pagesFor (tgt c0 2) a1 S) fun p2 => some (0, p2)) else (some (p1, 0))
theorem tf_FP_choices {E : EV} {X : XT} (hfl : X.2.2.2 = false) {c0 : Nat} (hc0 : HC X 10 c0) {a1 : Int} (ha1 : inR a1) {S : St} {q : Nat × Int} (h : fn_FP_choices c0 a1 S = some q) : Ev E M_FP_choices [.ref c0, V a1] (WX X S) 1 6 (KT X q.1 S (KI X q.2 S)) := by
  refine Ev.of pn_FP rfl (leK rfl) ?_
  show Go E M_FP_choices 1 6 0 [(0, .ref c0), (1, V a1)] [] (WX X S) 0 0 (KT X q.1 S (KI X q.2 S))
  unfold fn_FP_choices at h
  refine g_aloadn (pc := 0) (i0 := 0) (j := 0) (dK D_FP_choices 0 rfl) rfl rfl ?_
  refine g_iloadn (pc := 1) (i0 := 1) (j := 1) (dK D_FP_choices 1 rfl) rfl rfl ?_
  refine bnE h (fun p1 e_p1 h => ?_)
  refine vg_cV (pc := 2) (As := [V a1]) (rest := []) (mc' := 1) (ms' := 6) (dK D_FP_choices 2 rfl) K_FP_162 (fitK rfl) (ltK rfl) hc0 rfl (leK rfl) (leK rfl) (leK rfl) (tf_FP_needAd hfl hc0 ha1 e_p1) (kcT hfl (fun he3 => kcU ?_) (fun he3 => ⟨rfl, ?_⟩))
  · replace h := ifP h he3
    refine g_aloadn (pc := 5) (i0 := 0) (j := 0) (dK D_FP_choices 3 rfl) rfl rfl ?_
    refine vg_getO (pc := 6) (ci := 10) (f := 2) (dK D_FP_choices 4 rfl) q_424 hc0 (ltK rfl) (ltK rfl) rfl ?_
    refine g_iloadn (pc := 9) (i0 := 1) (j := 1) (dK D_FP_choices 5 rfl) rfl rfl ?_
    refine bnE h (fun p2 e_p2 h => ?_)
    refine vg_cV (pc := 10) (As := [V a1]) (rest := []) (mc' := 0) (ms' := 0) (dK D_FP_choices 6 rfl) K_FP_286 (fitK rfl) (ltK rfl) (hw_10_2 hc0) rfl (leK rfl) (leK rfl) (leK rfl) (tf_Searches_pagesFor (hw_10_2 hc0) ha1 e_p2) (kcI (fun h_p2 => ?_))
    exact vg_iretI (pc := 13) (r := p2) (dK D_FP_choices 7 rfl) rfl (leK rfl) (leK rfl) (xf hfl) (by obtain rfl := Option.some.inj h; exact KT_ok ⟨rfl, h_p2, rfl⟩)
  · replace h := ifN h he3
    obtain rfl := Option.some.inj h
    exact KT_thr he3
def fn_Law_choices (c0 : Nat) (a1 : Int) (c2 : Nat) (S : St) : Option (Int × St) := bnO (fn_FP_choices c0 a1 S) fun p1 => if p1.1 = 0 then (nm (ul S c2 0 p1.2) fun S2 => some (0, S2)) else (if p1.1 = 1 then (some (1, S)) else none)
theorem tf_Law_choices {E : EV} {X : XT} (hfl : X.2.2.2 = false) {c0 : Nat} (hc0 : HC X 10 c0) {a1 : Int} (ha1 : inR a1) {c2 : Nat} (hc2 : HA X 3 1 c2) {S : St} {q : Int × St} (h : fn_Law_choices c0 a1 c2 S = some q) : EvH E M_Law_choices [.ref c0, V a1, .ref c2] (WX X S) 1 6 (KI X q.1 q.2) := by
  refine EvH.of pn_Law (leK rfl) ?_
  show Go E M_Law_choices 1 6 0 [(0, .ref c0), (1, V a1), (2, .ref c2)] [] (WX X S) 0 0 (KI X q.1 q.2)
  unfold fn_Law_choices at h
  refine g_aloadn (pc := 0) (i0 := 2) (j := 2) (dK D_Law_choices 0 rfl) rfl rfl ?_
  refine vg_iconst (pc := 1) (dK D_Law_choices 1 rfl) ?_
  refine g_aloadn (pc := 2) (i0 := 0) (j := 0) (dK D_Law_choices 2 rfl) rfl rfl ?_
  refine g_iloadn (pc := 3) (i0 := 1) (j := 1) (dK D_Law_choices 3 rfl) rfl rfl ?_
  refine bnE h (fun p1 e_p1 h => ?_)
  refine vg_cVX hfl (pc := 4) (As := [V a1]) (rest := [V 0, .ref c2]) (mc' := 1) (ms' := 6) (dK D_Law_choices 4 rfl) K_Law_88 (fitK rfl) (ltK rfl) hc0 rfl (leK rfl) (leK rfl) (leK rfl) (tf_FP_choices hfl hc0 ha1 e_p1) (kxT hfl (fun he3 => kxI hfl (fun h_p1 => ?_)) (fun he3 => ?_))
  · replace h := ifP h he3
    refine vg_i2l (pc := 7) (dK D_Law_choices 5 rfl) h_p1 ?_
    refine nmE h (fun S2 e_S2 h => ?_)
    refine vg_lastore (pc := 8) (z := p1.2) (dK D_Law_choices 6 rfl) hc2 rfl ⟨by decide, by decide⟩ rfl e_S2 ?_
    refine g_goto (pc := 9) (tgt := 15) (dK D_Law_choices 7 rfl) rfl ?_
    refine vg_iconst (pc := 15) (dK D_Law_choices 11 rfl) ?_
    exact vg_iretI (pc := 16) (r := 0) (dK D_Law_choices 12 rfl) rfl (leK rfl) (leK rfl) (xf hfl) (by obtain rfl := Option.some.inj h; exact ⟨rfl, (inRk rfl), rfl⟩)
  · replace h := ifN h he3
    by_cases hq4 : p1.1 = 1
    · have h := ifP h hq4
      rw [hq4]
      exact ⟨_, CT_Law_choices_4_1, (by obtain rfl := Option.some.inj h; exact ⟨rfl, (inRk rfl), rfl⟩)⟩
    · replace h := ifN h hq4
      exact nomatch h
def fn_FP_firstPage (c0 : Nat) (a1 : Int) (a2 : Int) (S : St) : Option (Nat × Int) := bnO (fn_FP_needAd c0 a1 S) fun p1 => if p1 = 0 then (bnO (fn_Plan_firstFor (tgt c0 3) a1 a2 S) fun p2 => some (0, p2)) else (some (p1, 0))
theorem tf_FP_firstPage {E : EV} {X : XT} (hfl : X.2.2.2 = false) {c0 : Nat} (hc0 : HC X 10 c0) {a1 : Int} (ha1 : inR a1) {a2 : Int} (ha2 : inR a2) {S : St} {q : Nat × Int} (h : fn_FP_firstPage c0 a1 a2 S = some q) : Ev E M_FP_firstPage [.ref c0, V a1, V a2] (WX X S) 1 6 (KT X q.1 S (KI X q.2 S)) := by
  refine Ev.of pn_FP rfl (leK rfl) ?_
  show Go E M_FP_firstPage 1 6 0 [(0, .ref c0), (1, V a1), (2, V a2)] [] (WX X S) 0 0 (KT X q.1 S (KI X q.2 S))
  unfold fn_FP_firstPage at h
  refine g_aloadn (pc := 0) (i0 := 0) (j := 0) (dK D_FP_firstPage 0 rfl) rfl rfl ?_
  refine g_iloadn (pc := 1) (i0 := 1) (j := 1) (dK D_FP_firstPage 1 rfl) rfl rfl ?_
  refine bnE h (fun p1 e_p1 h => ?_)
  refine vg_cV (pc := 2) (As := [V a1]) (rest := []) (mc' := 1) (ms' := 6) (dK D_FP_firstPage 2 rfl) K_FP_162 (fitK rfl) (ltK rfl) hc0 rfl (leK rfl) (leK rfl) (leK rfl) (tf_FP_needAd hfl hc0 ha1 e_p1) (kcT hfl (fun he3 => kcU ?_) (fun he3 => ⟨rfl, ?_⟩))
  · replace h := ifP h he3
    refine g_aloadn (pc := 5) (i0 := 0) (j := 0) (dK D_FP_firstPage 3 rfl) rfl rfl ?_
    refine vg_getO (pc := 6) (ci := 10) (f := 3) (dK D_FP_firstPage 4 rfl) q_425 hc0 (ltK rfl) (ltK rfl) rfl ?_
    refine g_iloadn (pc := 9) (i0 := 1) (j := 1) (dK D_FP_firstPage 5 rfl) rfl rfl ?_
    refine g_iloadn (pc := 10) (i0 := 2) (j := 2) (dK D_FP_firstPage 6 rfl) rfl rfl ?_
    refine bnE h (fun p2 e_p2 h => ?_)
    refine vg_cV (pc := 11) (As := [V a1, V a2]) (rest := []) (mc' := 0) (ms' := 0) (dK D_FP_firstPage 7 rfl) K_FP_289 (fitK rfl) (ltK rfl) (hw_10_3 hc0) rfl (leK rfl) (leK rfl) (leK rfl) (tf_Plan_firstFor (hw_10_3 hc0) ha1 ha2 e_p2) (kcI (fun h_p2 => ?_))
    exact vg_iretI (pc := 14) (r := p2) (dK D_FP_firstPage 8 rfl) rfl (leK rfl) (leK rfl) (xf hfl) (by obtain rfl := Option.some.inj h; exact KT_ok ⟨rfl, h_p2, rfl⟩)
  · replace h := ifN h he3
    obtain rfl := Option.some.inj h
    exact KT_thr he3
def fn_Law_firstPage (c0 : Nat) (a1 : Int) (a2 : Int) (c3 : Nat) (S : St) : Option (Int × St) := bnO (fn_FP_firstPage c0 a1 a2 S) fun p1 => if p1.1 = 0 then (nm (ul S c3 0 p1.2) fun S2 => some (0, S2)) else (if p1.1 = 1 then (some (1, S)) else none)
theorem tf_Law_firstPage {E : EV} {X : XT} (hfl : X.2.2.2 = false) {c0 : Nat} (hc0 : HC X 10 c0) {a1 : Int} (ha1 : inR a1) {a2 : Int} (ha2 : inR a2) {c3 : Nat} (hc3 : HA X 3 1 c3) {S : St} {q : Int × St} (h : fn_Law_firstPage c0 a1 a2 c3 S = some q) : EvH E M_Law_firstPage [.ref c0, V a1, V a2, .ref c3] (WX X S) 1 6 (KI X q.1 q.2) := by
  refine EvH.of pn_Law (leK rfl) ?_
  show Go E M_Law_firstPage 1 6 0 [(0, .ref c0), (1, V a1), (2, V a2), (3, .ref c3)] [] (WX X S) 0 0 (KI X q.1 q.2)
  unfold fn_Law_firstPage at h
  refine g_aloadn (pc := 0) (i0 := 3) (j := 3) (dK D_Law_firstPage 0 rfl) rfl rfl ?_
  refine vg_iconst (pc := 1) (dK D_Law_firstPage 1 rfl) ?_
  refine g_aloadn (pc := 2) (i0 := 0) (j := 0) (dK D_Law_firstPage 2 rfl) rfl rfl ?_
  refine g_iloadn (pc := 3) (i0 := 1) (j := 1) (dK D_Law_firstPage 3 rfl) rfl rfl ?_
  refine g_iloadn (pc := 4) (i0 := 2) (j := 2) (dK D_Law_firstPage 4 rfl) rfl rfl ?_
  refine bnE h (fun p1 e_p1 h => ?_)
  refine vg_cVX hfl (pc := 5) (As := [V a1, V a2]) (rest := [V 0, .ref c3]) (mc' := 1) (ms' := 6) (dK D_Law_firstPage 5 rfl) K_Law_91 (fitK rfl) (ltK rfl) hc0 rfl (leK rfl) (leK rfl) (leK rfl) (tf_FP_firstPage hfl hc0 ha1 ha2 e_p1) (kxT hfl (fun he3 => kxI hfl (fun h_p1 => ?_)) (fun he3 => ?_))
  · replace h := ifP h he3
    refine vg_i2l (pc := 8) (dK D_Law_firstPage 6 rfl) h_p1 ?_
    refine nmE h (fun S2 e_S2 h => ?_)
    refine vg_lastore (pc := 9) (z := p1.2) (dK D_Law_firstPage 7 rfl) hc3 rfl ⟨by decide, by decide⟩ rfl e_S2 ?_
    refine g_goto (pc := 10) (tgt := 17) (dK D_Law_firstPage 8 rfl) rfl ?_
    refine vg_iconst (pc := 17) (dK D_Law_firstPage 12 rfl) ?_
    exact vg_iretI (pc := 18) (r := 0) (dK D_Law_firstPage 13 rfl) rfl (leK rfl) (leK rfl) (xf hfl) (by obtain rfl := Option.some.inj h; exact ⟨rfl, (inRk rfl), rfl⟩)
  · replace h := ifN h he3
    by_cases hq4 : p1.1 = 1
    · have h := ifP h hq4
      rw [hq4]
      exact ⟨_, CT_Law_firstPage_5_1, (by obtain rfl := Option.some.inj h; exact ⟨rfl, (inRk rfl), rfl⟩)⟩
    · replace h := ifN h hq4
      exact nomatch h
def fn_Plan_isUnfit (c0 : Nat) (a1 : Int) (a2 : Int) (S : St) : Option (Bool) := bnO (fn_Plan_isPrinted c0 a2 S) fun p1 => if p1 = true then (some true) else (if 0 ≤ a1 ∧ a1 < 40 then (bnO (fn_Plan_lacksColor c0 (g S (tgt (tgt (tgt c0 0) 0) 2) a1.toNat) a2 S) fun p4 => if p4 = true then (some true) else (bnO (fn_Plan_isWrongSide (g S (tgt (tgt (tgt c0 0) 0) 3) a1.toNat) a2 S) fun p6 => if p6 = true then (some true) else (some false))) else none)
theorem tf_Plan_isUnfit {E : EV} {X : XT} {c0 : Nat} (hc0 : HC X 4 c0) {a1 : Int} (ha1 : inR a1) {a2 : Int} (ha2 : inR a2) {S : St} {q : Bool} (h : fn_Plan_isUnfit c0 a1 a2 S = some q) : Ev E M_Plan_isUnfit [.ref c0, V a1, V a2] (WX X S) 0 0 (KB X q S) := by
  refine Ev.of pn_Plan rfl (leK rfl) ?_
  show Go E M_Plan_isUnfit 0 0 0 [(0, .ref c0), (1, V a1), (2, V a2)] [] (WX X S) 0 0 (KB X q S)
  unfold fn_Plan_isUnfit at h
  refine g_aloadn (pc := 0) (i0 := 0) (j := 0) (dK D_Plan_isUnfit 0 rfl) rfl rfl ?_
  refine g_iloadn (pc := 1) (i0 := 2) (j := 2) (dK D_Plan_isUnfit 1 rfl) rfl rfl ?_
  refine bnE h (fun p1 e_p1 h => ?_)
  refine vg_cV (pc := 2) (As := [V a2]) (rest := []) (mc' := 0) (ms' := 0) (dK D_Plan_isUnfit 2 rfl) K_Plan_135 (fitK rfl) (ltK rfl) hc0 rfl (leK rfl) (leK rfl) (leK rfl) (tf_Plan_isPrinted hc0 ha2 e_p1) (kcB ?_)
  refine vg_ifB_ne (pc := 5) (b := p1) (t := 47) (dK D_Plan_isUnfit 3 rfl) rfl (fun hc2 => ?_) (fun hc2 => ?_)
  · replace h := ifP h hc2
    refine vg_iconst (pc := 47) (dK D_Plan_isUnfit 23 rfl) ?_
    refine g_goto (pc := 48) (tgt := 52) (dK D_Plan_isUnfit 24 rfl) rfl ?_
    exact vg_iretB (pc := 52) (b := true) (dK D_Plan_isUnfit 26 rfl) rfl (leK rfl) (leK rfl) (fun _ => rfl) (by obtain rfl := Option.some.inj h; exact ⟨rfl, rfl⟩)
  · replace h := ifN h hc2
    refine g_aloadn (pc := 8) (i0 := 0) (j := 0) (dK D_Plan_isUnfit 4 rfl) rfl rfl ?_
    refine g_aloadn (pc := 9) (i0 := 0) (j := 0) (dK D_Plan_isUnfit 5 rfl) rfl rfl ?_
    refine vg_getO (pc := 10) (ci := 4) (f := 0) (dK D_Plan_isUnfit 6 rfl) q_290 hc0 (ltK rfl) (ltK rfl) rfl ?_
    refine vg_getO (pc := 13) (ci := 8) (f := 0) (dK D_Plan_isUnfit 7 rfl) q_222 (hw_4_0 hc0) (ltK rfl) (ltK rfl) rfl ?_
    refine vg_getA (pc := 16) (ci := 0) (f := 2) (dK D_Plan_isUnfit 8 rfl) q_86 (hw_8_0 (hw_4_0 hc0)) (ltK rfl) (ltK rfl) rfl ?_
    refine g_iloadn (pc := 19) (i0 := 1) (j := 1) (dK D_Plan_isUnfit 9 rfl) rfl rfl ?_
    refine gdE h (fun hi3 h => ?_)
    refine vg_iaload (pc := 20) (j := a1.toNat) (dK D_Plan_isUnfit 10 rfl) (hw_0_2 (hw_8_0 (hw_4_0 hc0))) rfl hi3 rfl ?_
    refine g_iloadn (pc := 21) (i0 := 2) (j := 2) (dK D_Plan_isUnfit 11 rfl) rfl rfl ?_
    refine bnE h (fun p4 e_p4 h => ?_)
    refine vg_cV (pc := 22) (As := [V (g S (tgt (tgt (tgt c0 0) 0) 2) a1.toNat), V a2]) (rest := []) (mc' := 0) (ms' := 0) (dK D_Plan_isUnfit 12 rfl) K_Plan_139 (fitK rfl) (ltK rfl) hc0 rfl (leK rfl) (leK rfl) (leK rfl) (tf_Plan_lacksColor hc0 (g_in _ _ _) ha2 e_p4) (kcB ?_)
    refine vg_ifB_ne (pc := 25) (b := p4) (t := 47) (dK D_Plan_isUnfit 13 rfl) rfl (fun hc5 => ?_) (fun hc5 => ?_)
    · replace h := ifP h hc5
      refine vg_iconst (pc := 47) (dK D_Plan_isUnfit 23 rfl) ?_
      refine g_goto (pc := 48) (tgt := 52) (dK D_Plan_isUnfit 24 rfl) rfl ?_
      exact vg_iretB (pc := 52) (b := true) (dK D_Plan_isUnfit 26 rfl) rfl (leK rfl) (leK rfl) (fun _ => rfl) (by obtain rfl := Option.some.inj h; exact ⟨rfl, rfl⟩)
    · replace h := ifN h hc5
      refine g_aloadn (pc := 28) (i0 := 0) (j := 0) (dK D_Plan_isUnfit 14 rfl) rfl rfl ?_
      refine vg_getO (pc := 29) (ci := 4) (f := 0) (dK D_Plan_isUnfit 15 rfl) q_290 hc0 (ltK rfl) (ltK rfl) rfl ?_
      refine vg_getO (pc := 32) (ci := 8) (f := 0) (dK D_Plan_isUnfit 16 rfl) q_222 (hw_4_0 hc0) (ltK rfl) (ltK rfl) rfl ?_
      refine vg_getA (pc := 35) (ci := 0) (f := 3) (dK D_Plan_isUnfit 17 rfl) q_91 (hw_8_0 (hw_4_0 hc0)) (ltK rfl) (ltK rfl) rfl ?_
      refine g_iloadn (pc := 38) (i0 := 1) (j := 1) (dK D_Plan_isUnfit 18 rfl) rfl rfl ?_
      refine vg_iaload (pc := 39) (j := a1.toNat) (dK D_Plan_isUnfit 19 rfl) (hw_0_3 (hw_8_0 (hw_4_0 hc0))) rfl hi3 rfl ?_
      refine g_iloadn (pc := 40) (i0 := 2) (j := 2) (dK D_Plan_isUnfit 20 rfl) rfl rfl ?_
      refine bnE h (fun p6 e_p6 h => ?_)
      refine vg_cS (pc := 41) (As := [V (g S (tgt (tgt (tgt c0 0) 0) 3) a1.toNat), V a2]) (rest := []) (mc' := 0) (ms' := 0) (dK D_Plan_isUnfit 21 rfl) K_Plan_146 (fitK rfl) rfl (leK rfl) (leK rfl) (leK rfl) (tf_Plan_isWrongSide (g_in _ _ _) ha2 e_p6) (kcB ?_)
      refine vg_ifB_eq (pc := 44) (b := p6) (t := 51) (dK D_Plan_isUnfit 22 rfl) rfl (fun hc7 => ?_) (fun hc7 => ?_)
      · replace h := ifP h hc7
        refine vg_iconst (pc := 47) (dK D_Plan_isUnfit 23 rfl) ?_
        refine g_goto (pc := 48) (tgt := 52) (dK D_Plan_isUnfit 24 rfl) rfl ?_
        exact vg_iretB (pc := 52) (b := true) (dK D_Plan_isUnfit 26 rfl) rfl (leK rfl) (leK rfl) (fun _ => rfl) (by obtain rfl := Option.some.inj h; exact ⟨rfl, rfl⟩)
      · replace h := ifN h hc7
        refine vg_iconst (pc := 51) (dK D_Plan_isUnfit 25 rfl) ?_
        exact vg_iretB (pc := 52) (b := false) (dK D_Plan_isUnfit 26 rfl) rfl (leK rfl) (leK rfl) (fun _ => rfl) (by obtain rfl := Option.some.inj h; exact ⟨rfl, rfl⟩)
def lb_Searches_rivalPricesBeside_5 (c0 : Nat) (a1 : Int) (a2 : Int) (S : St) (go : Int × Int → Option ((Int) ⊕ (Int))) (a3 : Int) (a4 : Int) : Option ((Int) ⊕ (Int)) := if (g S (tgt (tgt c0 1) 0) 7) ≤ a4 then (some (.inr a3)) else (if 0 ≤ a4 ∧ a4 < 40 then (if (g S (tgt (tgt (tgt c0 1) 0) 6) a4.toNat) = 0 then (nm (wr (a4 + 1)) fun v2 => go (a3, v2)) else (if (g S (tgt (tgt (tgt c0 1) 0) 6) a4.toNat) = a2 then (nm (wr (a4 + 1)) fun v3 => go (a3, v3)) else (nm (wr (a2.tdiv 2)) fun v4 => nm (wr ((g S (tgt (tgt (tgt c0 1) 0) 6) a4.toNat).tdiv 2)) fun v5 => if v5 = v4 then (bnO (fn_Ads_areRivals (tgt (tgt c0 1) 0) a1 a4 S) fun p7 => if p7 = true then (bnO (fn_Plan_isPrinted (tgt c0 0) (g S (tgt (tgt (tgt c0 1) 0) 6) a4.toNat) S) fun p10 => if p10 = true then (some (.inl (-1))) else (nm (wr (a3 + (g S (tgt (tgt (tgt c0 1) 0) 4) a4.toNat))) fun v12 => nm (wr (a4 + 1)) fun v13 => go (v12, v13))) else (nm (wr (a4 + 1)) fun v9 => go (a3, v9))) else (nm (wr (a4 + 1)) fun v6 => go (a3, v6))))) else none)
def lo_Searches_rivalPricesBeside_5 (c0 : Nat) (a1 : Int) (a2 : Int) (S : St) : Nat → Int × Int → Option ((Int) ⊕ (Int)) := lp fun go p => lb_Searches_rivalPricesBeside_5 c0 a1 a2 S go p.1 p.2
theorem tl_Searches_rivalPricesBeside_5 {E : EV} {X : XT} {c0 : Nat} (hc0 : HC X 6 c0) {a1 : Int} (ha1 : inR a1) {a2 : Int} (ha2 : inR a2) {S : St} {K : RK → PS → Prop} {q : (Int) ⊕ (Int)} (hx : ∀ p, q = .inr p → inR p → Go E M_Searches_rivalPricesBeside 0 0 108 [(3, V p)] [] (WX X S) 0 0 K) (hr : ∀ p, q = .inl p → inR p → K (.inl (some (V p))) (WX X S)) : ∀ n a, lo_Searches_rivalPricesBeside_5 c0 a1 a2 S n a = some q → inR a.1 → inR a.2 → Go E M_Searches_rivalPricesBeside 0 0 5 [(0, .ref c0), (1, V a1), (2, V a2), (3, V a.1), (4, V a.2)] [] (WX X S) 0 0 K := by
  refine lp_ind (P := fun a : Int × Int => inR a.1 → inR a.2 → Go E M_Searches_rivalPricesBeside 0 0 5 [(0, .ref c0), (1, V a1), (2, V a2), (3, V a.1), (4, V a.2)] [] (WX X S) 0 0 K) (fun go ih a h => ?_)
  obtain ⟨a3, a4⟩ := a
  intro ha3 ha4
  show Go E M_Searches_rivalPricesBeside 0 0 5 [(0, .ref c0), (1, V a1), (2, V a2), (3, V a3), (4, V a4)] [] (WX X S) 0 0 K
  replace h : lb_Searches_rivalPricesBeside_5 c0 a1 a2 S go a3 a4 = some q := h
  unfold lb_Searches_rivalPricesBeside_5 at h
  refine g_iload (pc := 5) (j := 4) (dK D_Searches_rivalPricesBeside_0 4 rfl) rfl ?_
  refine g_aloadn (pc := 7) (i0 := 0) (j := 0) (dK D_Searches_rivalPricesBeside_0 5 rfl) rfl rfl ?_
  refine vg_getO (pc := 8) (ci := 6) (f := 1) (dK D_Searches_rivalPricesBeside_0 6 rfl) q_370 hc0 (ltK rfl) (ltK rfl) rfl ?_
  refine vg_getO (pc := 11) (ci := 8) (f := 0) (dK D_Searches_rivalPricesBeside_0 7 rfl) q_221 (hw_6_1 hc0) (ltK rfl) (ltK rfl) rfl ?_
  refine vg_getI (pc := 14) (ci := 0) (f := 7) (dK D_Searches_rivalPricesBeside_0 8 rfl) q_106 (hw_8_0 (hw_6_1 hc0)) (ltK rfl) (ltK rfl) rfl ?_
  refine vg_icmp_ge (pc := 17) (t := 108) (dK D_Searches_rivalPricesBeside_0 9 rfl) rfl ha4 (g_in _ _ _) (fun hc17 => ?_) (fun hc17 => ?_)
  · replace h := ifP h hc17
    refine gL_weak (ls' := [(3, V a3)]) (sbc 3 rfl sbn) ?_
    exact hx _ (Option.some.inj h).symm ha3
  · replace h := ifN h hc17
    refine g_aloadn (pc := 20) (i0 := 0) (j := 0) (dK D_Searches_rivalPricesBeside_0 10 rfl) rfl rfl ?_
    refine vg_getO (pc := 21) (ci := 6) (f := 1) (dK D_Searches_rivalPricesBeside_0 11 rfl) q_370 hc0 (ltK rfl) (ltK rfl) rfl ?_
    refine vg_getO (pc := 24) (ci := 8) (f := 0) (dK D_Searches_rivalPricesBeside_0 12 rfl) q_221 (hw_6_1 hc0) (ltK rfl) (ltK rfl) rfl ?_
    refine vg_getA (pc := 27) (ci := 0) (f := 6) (dK D_Searches_rivalPricesBeside_0 13 rfl) q_101 (hw_8_0 (hw_6_1 hc0)) (ltK rfl) (ltK rfl) rfl ?_
    refine g_iload (pc := 30) (j := 4) (dK D_Searches_rivalPricesBeside_0 14 rfl) rfl ?_
    refine gdE h (fun hi1 h => ?_)
    refine vg_iaload (pc := 32) (j := a4.toNat) (dK D_Searches_rivalPricesBeside_0 15 rfl) (hw_0_6 (hw_8_0 (hw_6_1 hc0))) rfl hi1 rfl ?_
    refine g_istore (pc := 33) (ls2 := [(5, V (g S (tgt (tgt (tgt c0 1) 0) 6) a4.toNat)), (0, .ref c0), (1, V a1), (2, V a2), (3, V a3), (4, V a4)]) (dK D_Searches_rivalPricesBeside_0 16 rfl) (ltK rfl) rfl ?_
    refine g_iload (pc := 35) (j := 0) (dK D_Searches_rivalPricesBeside_0 17 rfl) rfl ?_
    refine vg_if_eq (pc := 37) (t := 102) (dK D_Searches_rivalPricesBeside_0 18 rfl) rfl (g_in _ _ _) (fun hc16 => ?_) (fun hc16 => ?_)
    · replace h := ifP h hc16
      refine nmE h (fun v2 e_v2 h => ?_)
      refine vg_iinc (pc := 102) (j := 5) (a := a4) (z := 1) (ls2 := [(4, V v2), (5, V (g S (tgt (tgt (tgt c0 1) 0) 6) a4.toNat)), (0, .ref c0), (1, V a1), (2, V a2), (3, V a3)]) (dK D_Searches_rivalPricesBeside_1 2 rfl) rfl e_v2 (ltK rfl) rfl ?_
      refine g_goto (pc := 105) (tgt := 5) (dK D_Searches_rivalPricesBeside_1 3 rfl) rfl ?_
      refine gL_weak (ls' := [(0, .ref c0), (1, V a1), (2, V a2), (3, V a3), (4, V v2)]) (sbc 2 rfl (sbc 3 rfl (sbc 4 rfl (sbc 5 rfl (sbc 0 rfl sbn))))) ?_
      replace h := ih _ h
      exact h ha3 (Vn_in e_v2)
    · replace h := ifN h hc16
      refine g_iload (pc := 40) (j := 0) (dK D_Searches_rivalPricesBeside_0 19 rfl) rfl ?_
      refine g_iloadn (pc := 42) (i0 := 2) (j := 3) (dK D_Searches_rivalPricesBeside_0 20 rfl) rfl rfl ?_
      refine vg_icmp_eq (pc := 43) (t := 102) (dK D_Searches_rivalPricesBeside_0 21 rfl) rfl (g_in _ _ _) ha2 (fun hc15 => ?_) (fun hc15 => ?_)
      · replace h := ifP h hc15
        refine nmE h (fun v3 e_v3 h => ?_)
        refine vg_iinc (pc := 102) (j := 5) (a := a4) (z := 1) (ls2 := [(4, V v3), (5, V (g S (tgt (tgt (tgt c0 1) 0) 6) a4.toNat)), (0, .ref c0), (1, V a1), (2, V a2), (3, V a3)]) (dK D_Searches_rivalPricesBeside_1 2 rfl) rfl e_v3 (ltK rfl) rfl ?_
        refine g_goto (pc := 105) (tgt := 5) (dK D_Searches_rivalPricesBeside_1 3 rfl) rfl ?_
        refine gL_weak (ls' := [(0, .ref c0), (1, V a1), (2, V a2), (3, V a3), (4, V v3)]) (sbc 2 rfl (sbc 3 rfl (sbc 4 rfl (sbc 5 rfl (sbc 0 rfl sbn))))) ?_
        replace h := ih _ h
        exact h ha3 (Vn_in e_v3)
      · replace h := ifN h hc15
        refine g_iload (pc := 46) (j := 0) (dK D_Searches_rivalPricesBeside_0 22 rfl) rfl ?_
        refine vg_iconst (pc := 48) (dK D_Searches_rivalPricesBeside_0 23 rfl) ?_
        refine vg_idiv (pc := 49) (dK D_Searches_rivalPricesBeside_0 24 rfl) (g_in _ _ _) (inRk rfl) (by decide) ?_
        refine g_iloadn (pc := 50) (i0 := 2) (j := 3) (dK D_Searches_rivalPricesBeside_0 25 rfl) rfl rfl ?_
        refine vg_iconst (pc := 51) (dK D_Searches_rivalPricesBeside_0 26 rfl) ?_
        refine vg_idiv (pc := 52) (dK D_Searches_rivalPricesBeside_0 27 rfl) ha2 (inRk rfl) (by decide) ?_
        refine nmE h (fun v4 e_v4 h => ?_)
        refine gtop e_v4 ?_
        refine nmE h (fun v5 e_v5 h => ?_)
        refine gsk (st' := [V v4, V v5]) (by rw [Vn e_v5]) ?_
        refine vg_icmp_ne (pc := 53) (t := 102) (dK D_Searches_rivalPricesBeside_0 28 rfl) rfl (Vn_in e_v5) (Vn_in e_v4) (fun hc14 => ?_) (fun hc14 => ?_)
        · replace h := ifN h hc14
          refine nmE h (fun v6 e_v6 h => ?_)
          refine vg_iinc (pc := 102) (j := 5) (a := a4) (z := 1) (ls2 := [(4, V v6), (5, V (g S (tgt (tgt (tgt c0 1) 0) 6) a4.toNat)), (0, .ref c0), (1, V a1), (2, V a2), (3, V a3)]) (dK D_Searches_rivalPricesBeside_1 2 rfl) rfl e_v6 (ltK rfl) rfl ?_
          refine g_goto (pc := 105) (tgt := 5) (dK D_Searches_rivalPricesBeside_1 3 rfl) rfl ?_
          refine gL_weak (ls' := [(0, .ref c0), (1, V a1), (2, V a2), (3, V a3), (4, V v6)]) (sbc 2 rfl (sbc 3 rfl (sbc 4 rfl (sbc 5 rfl (sbc 0 rfl sbn))))) ?_
          replace h := ih _ h
          exact h ha3 (Vn_in e_v6)
        · replace h := ifP h hc14
          refine g_aloadn (pc := 56) (i0 := 0) (j := 1) (dK D_Searches_rivalPricesBeside_0 29 rfl) rfl rfl ?_
          refine vg_getO (pc := 57) (ci := 6) (f := 1) (dK D_Searches_rivalPricesBeside_0 30 rfl) q_370 hc0 (ltK rfl) (ltK rfl) rfl ?_
          refine vg_getO (pc := 60) (ci := 8) (f := 0) (dK D_Searches_rivalPricesBeside_0 31 rfl) q_221 (hw_6_1 hc0) (ltK rfl) (ltK rfl) rfl ?_
          refine g_iloadn (pc := 63) (i0 := 1) (j := 2) (dK D_Searches_rivalPricesBeside_0 32 rfl) rfl rfl ?_
          refine g_iload (pc := 64) (j := 5) (dK D_Searches_rivalPricesBeside_0 33 rfl) rfl ?_
          refine bnE h (fun p7 e_p7 h => ?_)
          refine vg_cV (pc := 66) (As := [V a1, V a4]) (rest := []) (mc' := 0) (ms' := 0) (dK D_Searches_rivalPricesBeside_0 34 rfl) K_Searches_124 (fitK rfl) (ltK rfl) (hw_8_0 (hw_6_1 hc0)) rfl (leK rfl) (leK rfl) (leK rfl) (tf_Ads_areRivals (hw_8_0 (hw_6_1 hc0)) ha1 ha4 e_p7) (kcB ?_)
          refine vg_ifB_eq (pc := 69) (b := p7) (t := 102) (dK D_Searches_rivalPricesBeside_0 35 rfl) rfl (fun hc8 => ?_) (fun hc8 => ?_)
          · replace h := ifP h hc8
            refine g_aloadn (pc := 72) (i0 := 0) (j := 1) (dK D_Searches_rivalPricesBeside_0 36 rfl) rfl rfl ?_
            refine vg_getO (pc := 73) (ci := 6) (f := 0) (dK D_Searches_rivalPricesBeside_0 37 rfl) q_368 hc0 (ltK rfl) (ltK rfl) rfl ?_
            refine g_iload (pc := 76) (j := 0) (dK D_Searches_rivalPricesBeside_0 38 rfl) rfl ?_
            refine bnE h (fun p10 e_p10 h => ?_)
            refine vg_cV (pc := 78) (As := [V (g S (tgt (tgt (tgt c0 1) 0) 6) a4.toNat)]) (rest := []) (mc' := 0) (ms' := 0) (dK D_Searches_rivalPricesBeside_0 39 rfl) K_Searches_127 (fitK rfl) (ltK rfl) (hw_6_0 hc0) rfl (leK rfl) (leK rfl) (leK rfl) (tf_Plan_isPrinted (hw_6_0 hc0) (g_in _ _ _) e_p10) (kcB ?_)
            refine vg_ifB_eq (pc := 81) (b := p10) (t := 86) (dK D_Searches_rivalPricesBeside_0 40 rfl) rfl (fun hc11 => ?_) (fun hc11 => ?_)
            · replace h := ifP h hc11
              refine vg_iconst (pc := 84) (dK D_Searches_rivalPricesBeside_0 41 rfl) ?_
              exact vg_iretI (pc := 85) (r := (-1)) (dK D_Searches_rivalPricesBeside_0 42 rfl) rfl (leK rfl) (leK rfl) (fun _ => rfl) (hr _ (Option.some.inj h).symm (inRk rfl))
            · replace h := ifN h hc11
              refine g_iloadn (pc := 86) (i0 := 3) (j := 4) (dK D_Searches_rivalPricesBeside_0 43 rfl) rfl rfl ?_
              refine g_aloadn (pc := 87) (i0 := 0) (j := 1) (dK D_Searches_rivalPricesBeside_0 44 rfl) rfl rfl ?_
              refine vg_getO (pc := 88) (ci := 6) (f := 1) (dK D_Searches_rivalPricesBeside_0 45 rfl) q_370 hc0 (ltK rfl) (ltK rfl) rfl ?_
              refine vg_getO (pc := 91) (ci := 8) (f := 0) (dK D_Searches_rivalPricesBeside_0 46 rfl) q_221 (hw_6_1 hc0) (ltK rfl) (ltK rfl) rfl ?_
              refine vg_getA (pc := 94) (ci := 0) (f := 4) (dK D_Searches_rivalPricesBeside_0 47 rfl) q_93 (hw_8_0 (hw_6_1 hc0)) (ltK rfl) (ltK rfl) rfl ?_
              refine g_iload (pc := 97) (j := 5) (dK D_Searches_rivalPricesBeside_0 48 rfl) rfl ?_
              refine vg_iaload (pc := 99) (j := a4.toNat) (dK D_Searches_rivalPricesBeside_0 49 rfl) (hw_0_4 (hw_8_0 (hw_6_1 hc0))) rfl hi1 rfl ?_
              refine vg_iadd (pc := 100) (dK D_Searches_rivalPricesBeside_1 0 rfl) ?_
              refine nmE h (fun v12 e_v12 h => ?_)
              refine gtop e_v12 ?_
              refine g_istoren (pc := 101) (i0 := 3) (ls2 := [(3, V v12), (5, V (g S (tgt (tgt (tgt c0 1) 0) 6) a4.toNat)), (0, .ref c0), (1, V a1), (2, V a2), (4, V a4)]) (dK D_Searches_rivalPricesBeside_1 1 rfl) rfl (ltK rfl) rfl ?_
              refine nmE h (fun v13 e_v13 h => ?_)
              refine vg_iinc (pc := 102) (j := 5) (a := a4) (z := 1) (ls2 := [(4, V v13), (3, V v12), (5, V (g S (tgt (tgt (tgt c0 1) 0) 6) a4.toNat)), (0, .ref c0), (1, V a1), (2, V a2)]) (dK D_Searches_rivalPricesBeside_1 2 rfl) rfl e_v13 (ltK rfl) rfl ?_
              refine g_goto (pc := 105) (tgt := 5) (dK D_Searches_rivalPricesBeside_1 3 rfl) rfl ?_
              refine gL_weak (ls' := [(0, .ref c0), (1, V a1), (2, V a2), (3, V v12), (4, V v13)]) (sbc 3 rfl (sbc 4 rfl (sbc 5 rfl (sbc 1 rfl (sbc 0 rfl sbn))))) ?_
              replace h := ih _ h
              exact h (Vn_in e_v12) (Vn_in e_v13)
          · replace h := ifN h hc8
            refine nmE h (fun v9 e_v9 h => ?_)
            refine vg_iinc (pc := 102) (j := 5) (a := a4) (z := 1) (ls2 := [(4, V v9), (5, V (g S (tgt (tgt (tgt c0 1) 0) 6) a4.toNat)), (0, .ref c0), (1, V a1), (2, V a2), (3, V a3)]) (dK D_Searches_rivalPricesBeside_1 2 rfl) rfl e_v9 (ltK rfl) rfl ?_
            refine g_goto (pc := 105) (tgt := 5) (dK D_Searches_rivalPricesBeside_1 3 rfl) rfl ?_
            refine gL_weak (ls' := [(0, .ref c0), (1, V a1), (2, V a2), (3, V a3), (4, V v9)]) (sbc 2 rfl (sbc 3 rfl (sbc 4 rfl (sbc 5 rfl (sbc 0 rfl sbn))))) ?_
            replace h := ih _ h
            exact h ha3 (Vn_in e_v9)
def fn_Searches_rivalPricesBeside (c0 : Nat) (a1 : Int) (a2 : Int) (S : St) : Option (Int) := bnS (lo_Searches_rivalPricesBeside_5 c0 a1 a2 S FU (0, 0)) (fun p19 => some p19) fun p18 => some p18
theorem tf_Searches_rivalPricesBeside {E : EV} {X : XT} {c0 : Nat} (hc0 : HC X 6 c0) {a1 : Int} (ha1 : inR a1) {a2 : Int} (ha2 : inR a2) {S : St} {q : Int} (h : fn_Searches_rivalPricesBeside c0 a1 a2 S = some q) : Ev E M_Searches_rivalPricesBeside [.ref c0, V a1, V a2] (WX X S) 0 0 (KI X q S) := by
  refine Ev.of pn_Searches rfl (leK rfl) ?_
  show Go E M_Searches_rivalPricesBeside 0 0 0 [(0, .ref c0), (1, V a1), (2, V a2)] [] (WX X S) 0 0 (KI X q S)
  unfold fn_Searches_rivalPricesBeside at h
  refine vg_iconst (pc := 0) (dK D_Searches_rivalPricesBeside_0 0 rfl) ?_
  refine g_istoren (pc := 1) (i0 := 3) (ls2 := [(3, V 0), (0, .ref c0), (1, V a1), (2, V a2)]) (dK D_Searches_rivalPricesBeside_0 1 rfl) rfl (ltK rfl) rfl ?_
  refine vg_iconst (pc := 2) (dK D_Searches_rivalPricesBeside_0 2 rfl) ?_
  refine g_istore (pc := 3) (ls2 := [(4, V 0), (3, V 0), (0, .ref c0), (1, V a1), (2, V a2)]) (dK D_Searches_rivalPricesBeside_0 3 rfl) (ltK rfl) rfl ?_
  refine bnSE h (fun p19 e_p19 h => ?_) (fun p18 e_p18 h => ?_)
  · refine gL_weak (ls' := [(0, .ref c0), (1, V a1), (2, V a2), (3, V 0), (4, V 0)]) (sbc 2 rfl (sbc 3 rfl (sbc 4 rfl (sbc 1 rfl (sbc 0 rfl sbn))))) ?_
    refine tl_Searches_rivalPricesBeside_5 hc0 ha1 ha2 (fun _ e => slr e) (fun p e hr_p19 => ?_) FU (0, 0) e_p19 (inRk rfl) (inRk rfl)
    have e := Sum.inl.inj e
    subst e
    exact (by obtain rfl := Option.some.inj h; exact ⟨rfl, hr_p19, rfl⟩)
  · refine gL_weak (ls' := [(0, .ref c0), (1, V a1), (2, V a2), (3, V 0), (4, V 0)]) (sbc 2 rfl (sbc 3 rfl (sbc 4 rfl (sbc 1 rfl (sbc 0 rfl sbn))))) ?_
    refine tl_Searches_rivalPricesBeside_5 hc0 ha1 ha2 (fun p e hx3_p18 => ?_) (fun _ e => srl e) FU (0, 0) e_p18 (inRk rfl) (inRk rfl)
    have e := Sum.inr.inj e
    subst e
    refine g_iloadn (pc := 108) (i0 := 3) (j := 0) (dK D_Searches_rivalPricesBeside_1 4 rfl) rfl rfl ?_
    exact vg_iretI (pc := 109) (r := p18) (dK D_Searches_rivalPricesBeside_1 5 rfl) rfl (leK rfl) (leK rfl) (fun _ => rfl) (by obtain rfl := Option.some.inj h; exact ⟨rfl, hx3_p18, rfl⟩)
def lb_Searches_removedPrices_17 (c0 : Nat) (a1 : Int) (a3 : Int) (a4 : Int) (S : St) (go : Int × Int × Int → Option ((Int) ⊕ (Int × Int))) (a5 : Int) (a6 : Int) (a7 : Int) : Option ((Int) ⊕ (Int × Int)) := if a3 ≤ a7 then (some (.inr (a5, a6))) else (if (i_and (i_shr a4 a7) 1) = 1 then (if 0 ≤ a7 ∧ a7 < 4 then (if 0 ≤ (g S (tgt c0 3) a7.toNat) ∧ (g S (tgt c0 3) a7.toNat) < 40 then (nm (wr (a5 + (g S (tgt (tgt (tgt c0 1) 0) 0) (((g S (tgt c0 3) a7.toNat)).toNat)))) fun v8 => nm (wr (a6 + (g S (tgt (tgt (tgt c0 1) 0) 4) (((g S (tgt c0 3) a7.toNat)).toNat)))) fun v9 => nm (wr (a7 + 1)) fun v10 => go (v8, v9, v10)) else none) else none) else (if 0 ≤ a7 ∧ a7 < 4 then (bnO (fn_Ads_areRivals (tgt (tgt c0 1) 0) a1 (g S (tgt c0 3) a7.toNat) S) fun p3 => if p3 = true then (some (.inl (-1))) else (nm (wr (a7 + 1)) fun v5 => go (a5, a6, v5))) else none))
def lo_Searches_removedPrices_17 (c0 : Nat) (a1 : Int) (a3 : Int) (a4 : Int) (S : St) : Nat → Int × Int × Int → Option ((Int) ⊕ (Int × Int)) := lp fun go p => lb_Searches_removedPrices_17 c0 a1 a3 a4 S go p.1 p.2.1 p.2.2
theorem tl_Searches_removedPrices_17 {E : EV} {X : XT} {c0 : Nat} (hc0 : HC X 6 c0) {a1 : Int} (ha1 : inR a1) {a3 : Int} (ha3 : inR a3) {a4 : Int} (ha4 : inR a4) {S : St} {K : RK → PS → Prop} {q : (Int) ⊕ (Int × Int)} (hx : ∀ p, q = .inr p → inR p.1 → inR p.2 → Go E M_Searches_removedPrices 0 0 112 [(0, .ref c0), (1, V a1), (5, V p.1), (6, V p.2)] [] (WX X S) 0 0 K) (hr : ∀ p, q = .inl p → inR p → K (.inl (some (V p))) (WX X S)) : ∀ n a, lo_Searches_removedPrices_17 c0 a1 a3 a4 S n a = some q → inR a.1 → inR a.2.1 → inR a.2.2 → Go E M_Searches_removedPrices 0 0 17 [(0, .ref c0), (1, V a1), (3, V a3), (4, V a4), (5, V a.1), (6, V a.2.1), (7, V a.2.2)] [] (WX X S) 0 0 K := by
  refine lp_ind (P := fun a : Int × Int × Int => inR a.1 → inR a.2.1 → inR a.2.2 → Go E M_Searches_removedPrices 0 0 17 [(0, .ref c0), (1, V a1), (3, V a3), (4, V a4), (5, V a.1), (6, V a.2.1), (7, V a.2.2)] [] (WX X S) 0 0 K) (fun go ih a h => ?_)
  obtain ⟨a5, a6, a7⟩ := a
  intro ha5 ha6 ha7
  show Go E M_Searches_removedPrices 0 0 17 [(0, .ref c0), (1, V a1), (3, V a3), (4, V a4), (5, V a5), (6, V a6), (7, V a7)] [] (WX X S) 0 0 K
  replace h : lb_Searches_removedPrices_17 c0 a1 a3 a4 S go a5 a6 a7 = some q := h
  unfold lb_Searches_removedPrices_17 at h
  refine g_iload (pc := 17) (j := 6) (dK D_Searches_removedPrices_0 10 rfl) rfl ?_
  refine g_iloadn (pc := 19) (i0 := 3) (j := 2) (dK D_Searches_removedPrices_0 11 rfl) rfl rfl ?_
  refine vg_icmp_ge (pc := 20) (t := 112) (dK D_Searches_removedPrices_0 12 rfl) rfl ha7 ha3 (fun hc12 => ?_) (fun hc12 => ?_)
  · replace h := ifP h hc12
    refine gL_weak (ls' := [(0, .ref c0), (1, V a1), (5, V a5), (6, V a6)]) (sbc 0 rfl (sbc 1 rfl (sbc 4 rfl (sbc 5 rfl sbn)))) ?_
    exact hx _ (Option.some.inj h).symm ha5 ha6
  · replace h := ifN h hc12
    refine g_iload (pc := 23) (j := 3) (dK D_Searches_removedPrices_0 13 rfl) rfl ?_
    refine g_iload (pc := 25) (j := 6) (dK D_Searches_removedPrices_0 14 rfl) rfl ?_
    refine vg_ishr (pc := 27) (dK D_Searches_removedPrices_0 15 rfl) ?_
    refine vg_iconst (pc := 28) (dK D_Searches_removedPrices_0 16 rfl) ?_
    refine vg_iand (pc := 29) (dK D_Searches_removedPrices_0 17 rfl) ?_
    refine vg_iconst (pc := 30) (dK D_Searches_removedPrices_0 18 rfl) ?_
    refine vg_icmp_ne (pc := 31) (t := 83) (dK D_Searches_removedPrices_0 19 rfl) rfl (toInt_in _) (inRk rfl) (fun hc11 => ?_) (fun hc11 => ?_)
    · replace h := ifN h hc11
      refine g_aloadn (pc := 83) (i0 := 0) (j := 0) (dK D_Searches_removedPrices_0 45 rfl) rfl rfl ?_
      refine vg_getO (pc := 84) (ci := 6) (f := 1) (dK D_Searches_removedPrices_0 46 rfl) q_370 hc0 (ltK rfl) (ltK rfl) rfl ?_
      refine vg_getO (pc := 87) (ci := 8) (f := 0) (dK D_Searches_removedPrices_0 47 rfl) q_221 (hw_6_1 hc0) (ltK rfl) (ltK rfl) rfl ?_
      refine g_iloadn (pc := 90) (i0 := 1) (j := 1) (dK D_Searches_removedPrices_0 48 rfl) rfl rfl ?_
      refine g_aloadn (pc := 91) (i0 := 0) (j := 0) (dK D_Searches_removedPrices_0 49 rfl) rfl rfl ?_
      refine vg_getA (pc := 92) (ci := 6) (f := 3) (dK D_Searches_removedPrices_1 0 rfl) q_372 hc0 (ltK rfl) (ltK rfl) rfl ?_
      refine g_iload (pc := 95) (j := 6) (dK D_Searches_removedPrices_1 1 rfl) rfl ?_
      refine gdE h (fun hi2 h => ?_)
      refine vg_iaload (pc := 97) (j := a7.toNat) (dK D_Searches_removedPrices_1 2 rfl) (hw_6_3 hc0) rfl hi2 rfl ?_
      refine bnE h (fun p3 e_p3 h => ?_)
      refine vg_cV (pc := 98) (As := [V a1, V (g S (tgt c0 3) a7.toNat)]) (rest := []) (mc' := 0) (ms' := 0) (dK D_Searches_removedPrices_1 3 rfl) K_Searches_124 (fitK rfl) (ltK rfl) (hw_8_0 (hw_6_1 hc0)) rfl (leK rfl) (leK rfl) (leK rfl) (tf_Ads_areRivals (hw_8_0 (hw_6_1 hc0)) ha1 (g_in _ _ _) e_p3) (kcB ?_)
      refine vg_ifB_eq (pc := 101) (b := p3) (t := 106) (dK D_Searches_removedPrices_1 4 rfl) rfl (fun hc4 => ?_) (fun hc4 => ?_)
      · replace h := ifP h hc4
        refine vg_iconst (pc := 104) (dK D_Searches_removedPrices_1 5 rfl) ?_
        exact vg_iretI (pc := 105) (r := (-1)) (dK D_Searches_removedPrices_1 6 rfl) rfl (leK rfl) (leK rfl) (fun _ => rfl) (hr _ (Option.some.inj h).symm (inRk rfl))
      · replace h := ifN h hc4
        refine nmE h (fun v5 e_v5 h => ?_)
        refine vg_iinc (pc := 106) (j := 6) (a := a7) (z := 1) (ls2 := [(7, V v5), (0, .ref c0), (1, V a1), (3, V a3), (4, V a4), (5, V a5), (6, V a6)]) (dK D_Searches_removedPrices_1 7 rfl) rfl e_v5 (ltK rfl) rfl ?_
        refine g_goto (pc := 109) (tgt := 17) (dK D_Searches_removedPrices_1 8 rfl) rfl ?_
        refine gL_weak (ls' := [(0, .ref c0), (1, V a1), (3, V a3), (4, V a4), (5, V a5), (6, V a6), (7, V v5)]) (sbc 1 rfl (sbc 2 rfl (sbc 3 rfl (sbc 4 rfl (sbc 5 rfl (sbc 6 rfl (sbc 0 rfl sbn))))))) ?_
        replace h := ih _ h
        exact h ha5 ha6 (Vn_in e_v5)
    · replace h := ifP h hc11
      refine g_iload (pc := 34) (j := 4) (dK D_Searches_removedPrices_0 20 rfl) rfl ?_
      refine g_aloadn (pc := 36) (i0 := 0) (j := 0) (dK D_Searches_removedPrices_0 21 rfl) rfl rfl ?_
      refine vg_getO (pc := 37) (ci := 6) (f := 1) (dK D_Searches_removedPrices_0 22 rfl) q_370 hc0 (ltK rfl) (ltK rfl) rfl ?_
      refine vg_getO (pc := 40) (ci := 8) (f := 0) (dK D_Searches_removedPrices_0 23 rfl) q_221 (hw_6_1 hc0) (ltK rfl) (ltK rfl) rfl ?_
      refine vg_getA (pc := 43) (ci := 0) (f := 0) (dK D_Searches_removedPrices_0 24 rfl) q_77 (hw_8_0 (hw_6_1 hc0)) (ltK rfl) (ltK rfl) rfl ?_
      refine g_aloadn (pc := 46) (i0 := 0) (j := 0) (dK D_Searches_removedPrices_0 25 rfl) rfl rfl ?_
      refine vg_getA (pc := 47) (ci := 6) (f := 3) (dK D_Searches_removedPrices_0 26 rfl) q_372 hc0 (ltK rfl) (ltK rfl) rfl ?_
      refine g_iload (pc := 50) (j := 6) (dK D_Searches_removedPrices_0 27 rfl) rfl ?_
      refine gdE h (fun hi6 h => ?_)
      refine vg_iaload (pc := 52) (j := a7.toNat) (dK D_Searches_removedPrices_0 28 rfl) (hw_6_3 hc0) rfl hi6 rfl ?_
      refine gdE h (fun hi7 h => ?_)
      refine vg_iaload (pc := 53) (j := ((g S (tgt c0 3) a7.toNat)).toNat) (dK D_Searches_removedPrices_0 29 rfl) (hw_0_0 (hw_8_0 (hw_6_1 hc0))) rfl hi7 rfl ?_
      refine vg_iadd (pc := 54) (dK D_Searches_removedPrices_0 30 rfl) ?_
      refine nmE h (fun v8 e_v8 h => ?_)
      refine gtop e_v8 ?_
      refine g_istore (pc := 55) (ls2 := [(5, V v8), (0, .ref c0), (1, V a1), (3, V a3), (4, V a4), (6, V a6), (7, V a7)]) (dK D_Searches_removedPrices_0 31 rfl) (ltK rfl) rfl ?_
      refine g_iload (pc := 57) (j := 5) (dK D_Searches_removedPrices_0 32 rfl) rfl ?_
      refine g_aloadn (pc := 59) (i0 := 0) (j := 1) (dK D_Searches_removedPrices_0 33 rfl) rfl rfl ?_
      refine vg_getO (pc := 60) (ci := 6) (f := 1) (dK D_Searches_removedPrices_0 34 rfl) q_370 hc0 (ltK rfl) (ltK rfl) rfl ?_
      refine vg_getO (pc := 63) (ci := 8) (f := 0) (dK D_Searches_removedPrices_0 35 rfl) q_221 (hw_6_1 hc0) (ltK rfl) (ltK rfl) rfl ?_
      refine vg_getA (pc := 66) (ci := 0) (f := 4) (dK D_Searches_removedPrices_0 36 rfl) q_93 (hw_8_0 (hw_6_1 hc0)) (ltK rfl) (ltK rfl) rfl ?_
      refine g_aloadn (pc := 69) (i0 := 0) (j := 1) (dK D_Searches_removedPrices_0 37 rfl) rfl rfl ?_
      refine vg_getA (pc := 70) (ci := 6) (f := 3) (dK D_Searches_removedPrices_0 38 rfl) q_372 hc0 (ltK rfl) (ltK rfl) rfl ?_
      refine g_iload (pc := 73) (j := 6) (dK D_Searches_removedPrices_0 39 rfl) rfl ?_
      refine vg_iaload (pc := 75) (j := a7.toNat) (dK D_Searches_removedPrices_0 40 rfl) (hw_6_3 hc0) rfl hi6 rfl ?_
      refine vg_iaload (pc := 76) (j := ((g S (tgt c0 3) a7.toNat)).toNat) (dK D_Searches_removedPrices_0 41 rfl) (hw_0_4 (hw_8_0 (hw_6_1 hc0))) rfl hi7 rfl ?_
      refine vg_iadd (pc := 77) (dK D_Searches_removedPrices_0 42 rfl) ?_
      refine nmE h (fun v9 e_v9 h => ?_)
      refine gtop e_v9 ?_
      refine g_istore (pc := 78) (ls2 := [(6, V v9), (5, V v8), (0, .ref c0), (1, V a1), (3, V a3), (4, V a4), (7, V a7)]) (dK D_Searches_removedPrices_0 43 rfl) (ltK rfl) rfl ?_
      refine g_goto (pc := 80) (tgt := 106) (dK D_Searches_removedPrices_0 44 rfl) rfl ?_
      refine nmE h (fun v10 e_v10 h => ?_)
      refine vg_iinc (pc := 106) (j := 6) (a := a7) (z := 1) (ls2 := [(7, V v10), (6, V v9), (5, V v8), (0, .ref c0), (1, V a1), (3, V a3), (4, V a4)]) (dK D_Searches_removedPrices_1 7 rfl) rfl e_v10 (ltK rfl) rfl ?_
      refine g_goto (pc := 109) (tgt := 17) (dK D_Searches_removedPrices_1 8 rfl) rfl ?_
      refine gL_weak (ls' := [(0, .ref c0), (1, V a1), (3, V a3), (4, V a4), (5, V v8), (6, V v9), (7, V v10)]) (sbc 3 rfl (sbc 4 rfl (sbc 5 rfl (sbc 6 rfl (sbc 2 rfl (sbc 1 rfl (sbc 0 rfl sbn))))))) ?_
      replace h := ih _ h
      exact h (Vn_in e_v8) (Vn_in e_v9) (Vn_in e_v10)
def fn_Searches_removedPrices (c0 : Nat) (a1 : Int) (a2 : Int) (a3 : Int) (a4 : Int) (S : St) : Option (Int) := bnO (fn_Plan_roomFor (tgt c0 0) a1 a2 S) fun p1 => bnS (lo_Searches_removedPrices_17 c0 a1 a3 a4 S FU (p1, 0, 0)) (fun p16 => some p16) fun p13 => if 0 ≤ a1 ∧ a1 < 40 then (if (g S (tgt (tgt (tgt c0 1) 0) 0) a1.toNat) ≤ p13.1 then (some p13.2) else (some (-1))) else none
theorem tf_Searches_removedPrices {E : EV} {X : XT} {c0 : Nat} (hc0 : HC X 6 c0) {a1 : Int} (ha1 : inR a1) {a2 : Int} (ha2 : inR a2) {a3 : Int} (ha3 : inR a3) {a4 : Int} (ha4 : inR a4) {S : St} {q : Int} (h : fn_Searches_removedPrices c0 a1 a2 a3 a4 S = some q) : Ev E M_Searches_removedPrices [.ref c0, V a1, V a2, V a3, V a4] (WX X S) 0 0 (KI X q S) := by
  refine Ev.of pn_Searches rfl (leK rfl) ?_
  show Go E M_Searches_removedPrices 0 0 0 [(0, .ref c0), (1, V a1), (2, V a2), (3, V a3), (4, V a4)] [] (WX X S) 0 0 (KI X q S)
  unfold fn_Searches_removedPrices at h
  refine g_aloadn (pc := 0) (i0 := 0) (j := 0) (dK D_Searches_removedPrices_0 0 rfl) rfl rfl ?_
  refine vg_getO (pc := 1) (ci := 6) (f := 0) (dK D_Searches_removedPrices_0 1 rfl) q_368 hc0 (ltK rfl) (ltK rfl) rfl ?_
  refine g_iloadn (pc := 4) (i0 := 1) (j := 1) (dK D_Searches_removedPrices_0 2 rfl) rfl rfl ?_
  refine g_iloadn (pc := 5) (i0 := 2) (j := 2) (dK D_Searches_removedPrices_0 3 rfl) rfl rfl ?_
  refine bnE h (fun p1 e_p1 h => ?_)
  refine vg_cV (pc := 6) (As := [V a1, V a2]) (rest := []) (mc' := 0) (ms' := 0) (dK D_Searches_removedPrices_0 4 rfl) K_Searches_134 (fitK rfl) (ltK rfl) (hw_6_0 hc0) rfl (leK rfl) (leK rfl) (leK rfl) (tf_Plan_roomFor (hw_6_0 hc0) ha1 ha2 e_p1) (kcI (fun h_p1 => ?_))
  refine g_istore (pc := 9) (ls2 := [(5, V p1), (0, .ref c0), (1, V a1), (2, V a2), (3, V a3), (4, V a4)]) (dK D_Searches_removedPrices_0 5 rfl) (ltK rfl) rfl ?_
  refine vg_iconst (pc := 11) (dK D_Searches_removedPrices_0 6 rfl) ?_
  refine g_istore (pc := 12) (ls2 := [(6, V 0), (5, V p1), (0, .ref c0), (1, V a1), (2, V a2), (3, V a3), (4, V a4)]) (dK D_Searches_removedPrices_0 7 rfl) (ltK rfl) rfl ?_
  refine vg_iconst (pc := 14) (dK D_Searches_removedPrices_0 8 rfl) ?_
  refine g_istore (pc := 15) (ls2 := [(7, V 0), (6, V 0), (5, V p1), (0, .ref c0), (1, V a1), (2, V a2), (3, V a3), (4, V a4)]) (dK D_Searches_removedPrices_0 9 rfl) (ltK rfl) rfl ?_
  refine bnSE h (fun p16 e_p16 h => ?_) (fun p13 e_p13 h => ?_)
  · refine gL_weak (ls' := [(0, .ref c0), (1, V a1), (3, V a3), (4, V a4), (5, V p1), (6, V 0), (7, V 0)]) (sbc 3 rfl (sbc 4 rfl (sbc 6 rfl (sbc 7 rfl (sbc 2 rfl (sbc 1 rfl (sbc 0 rfl sbn))))))) ?_
    refine tl_Searches_removedPrices_17 hc0 ha1 ha3 ha4 (fun _ e => slr e) (fun p e hr_p16 => ?_) FU (p1, 0, 0) e_p16 h_p1 (inRk rfl) (inRk rfl)
    have e := Sum.inl.inj e
    subst e
    exact (by obtain rfl := Option.some.inj h; exact ⟨rfl, hr_p16, rfl⟩)
  · refine gL_weak (ls' := [(0, .ref c0), (1, V a1), (3, V a3), (4, V a4), (5, V p1), (6, V 0), (7, V 0)]) (sbc 3 rfl (sbc 4 rfl (sbc 6 rfl (sbc 7 rfl (sbc 2 rfl (sbc 1 rfl (sbc 0 rfl sbn))))))) ?_
    refine tl_Searches_removedPrices_17 hc0 ha1 ha3 ha4 (fun p e hx5_p13 hx6_p13 => ?_) (fun _ e => srl e) FU (p1, 0, 0) e_p13 h_p1 (inRk rfl) (inRk rfl)
    have e := Sum.inr.inj e
    subst e
    refine g_iload (pc := 112) (j := 2) (dK D_Searches_removedPrices_1 9 rfl) rfl ?_
    refine g_aloadn (pc := 114) (i0 := 0) (j := 0) (dK D_Searches_removedPrices_1 10 rfl) rfl rfl ?_
    refine vg_getO (pc := 115) (ci := 6) (f := 1) (dK D_Searches_removedPrices_1 11 rfl) q_370 hc0 (ltK rfl) (ltK rfl) rfl ?_
    refine vg_getO (pc := 118) (ci := 8) (f := 0) (dK D_Searches_removedPrices_1 12 rfl) q_221 (hw_6_1 hc0) (ltK rfl) (ltK rfl) rfl ?_
    refine vg_getA (pc := 121) (ci := 0) (f := 0) (dK D_Searches_removedPrices_1 13 rfl) q_77 (hw_8_0 (hw_6_1 hc0)) (ltK rfl) (ltK rfl) rfl ?_
    refine g_iloadn (pc := 124) (i0 := 1) (j := 1) (dK D_Searches_removedPrices_1 14 rfl) rfl rfl ?_
    refine gdE h (fun hi14 h => ?_)
    refine vg_iaload (pc := 125) (j := a1.toNat) (dK D_Searches_removedPrices_1 15 rfl) (hw_0_0 (hw_8_0 (hw_6_1 hc0))) rfl hi14 rfl ?_
    refine vg_icmp_ge (pc := 126) (t := 133) (dK D_Searches_removedPrices_1 16 rfl) rfl hx5_p13 (g_in _ _ _) (fun hc15 => ?_) (fun hc15 => ?_)
    · replace h := ifP h hc15
      refine g_iload (pc := 133) (j := 3) (dK D_Searches_removedPrices_1 19 rfl) rfl ?_
      exact vg_iretI (pc := 135) (r := p13.2) (dK D_Searches_removedPrices_1 20 rfl) rfl (leK rfl) (leK rfl) (fun _ => rfl) (by obtain rfl := Option.some.inj h; exact ⟨rfl, hx6_p13, rfl⟩)
    · replace h := ifN h hc15
      refine vg_iconst (pc := 129) (dK D_Searches_removedPrices_1 17 rfl) ?_
      refine g_goto (pc := 130) (tgt := 135) (dK D_Searches_removedPrices_1 18 rfl) rfl ?_
      exact vg_iretI (pc := 135) (r := (-1)) (dK D_Searches_removedPrices_1 20 rfl) rfl (leK rfl) (leK rfl) (fun _ => rfl) (by obtain rfl := Option.some.inj h; exact ⟨rfl, (inRk rfl), rfl⟩)
def lb_Searches_pricesForRoom_5 (c0 : Nat) (a1 : Int) (a2 : Int) (go : Int × Int × St → Option (Int × St)) (a3 : Int) (a4 : Int) (S : St) : Option (Int × St) := if (g S (tgt (tgt c0 1) 0) 7) ≤ a4 then (some (a3, S)) else (if 4 ≤ a3 then (some (a3, S)) else (if a4 = a1 then (nm (wr (a4 + 1)) fun v1 => go (a3, v1, S)) else (if 0 ≤ a4 ∧ a4 < 40 then (if (g S (tgt (tgt (tgt c0 1) 0) 6) a4.toNat) = a2 then (if 0 ≤ a3 ∧ a3 < 4 then (nm (u S (tgt c0 3) a3.toNat a4) fun S5 => nm (wr (a3 + 1)) fun v6 => nm (wr (a4 + 1)) fun v7 => go (v6, v7, S5)) else none) else (nm (wr (a4 + 1)) fun v3 => go (a3, v3, S))) else none)))
def lo_Searches_pricesForRoom_5 (c0 : Nat) (a1 : Int) (a2 : Int) : Nat → Int × Int × St → Option (Int × St) := lp fun go p => lb_Searches_pricesForRoom_5 c0 a1 a2 go p.1 p.2.1 p.2.2
theorem tl_Searches_pricesForRoom_5 {E : EV} {X : XT} {c0 : Nat} (hc0 : HC X 6 c0) {a1 : Int} (ha1 : inR a1) {a2 : Int} (ha2 : inR a2) {K : RK → PS → Prop} {q : Int × St} (hx : inR q.1 → Go E M_Searches_pricesForRoom 0 0 65 [(0, .ref c0), (1, V a1), (2, V a2), (3, V q.1)] [] (WX X q.2) 0 0 K) : ∀ n a, lo_Searches_pricesForRoom_5 c0 a1 a2 n a = some q → inR a.1 → inR a.2.1 → Go E M_Searches_pricesForRoom 0 0 5 [(0, .ref c0), (1, V a1), (2, V a2), (3, V a.1), (4, V a.2.1)] [] (WX X a.2.2) 0 0 K := by
  refine lp_ind (P := fun a : Int × Int × St => inR a.1 → inR a.2.1 → Go E M_Searches_pricesForRoom 0 0 5 [(0, .ref c0), (1, V a1), (2, V a2), (3, V a.1), (4, V a.2.1)] [] (WX X a.2.2) 0 0 K) (fun go ih a h => ?_)
  obtain ⟨a3, a4, S⟩ := a
  intro ha3 ha4
  show Go E M_Searches_pricesForRoom 0 0 5 [(0, .ref c0), (1, V a1), (2, V a2), (3, V a3), (4, V a4)] [] (WX X S) 0 0 K
  replace h : lb_Searches_pricesForRoom_5 c0 a1 a2 go a3 a4 S = some q := h
  unfold lb_Searches_pricesForRoom_5 at h
  refine g_iload (pc := 5) (j := 4) (dK D_Searches_pricesForRoom_0 4 rfl) rfl ?_
  refine g_aloadn (pc := 7) (i0 := 0) (j := 0) (dK D_Searches_pricesForRoom_0 5 rfl) rfl rfl ?_
  refine vg_getO (pc := 8) (ci := 6) (f := 1) (dK D_Searches_pricesForRoom_0 6 rfl) q_370 hc0 (ltK rfl) (ltK rfl) rfl ?_
  refine vg_getO (pc := 11) (ci := 8) (f := 0) (dK D_Searches_pricesForRoom_0 7 rfl) q_221 (hw_6_1 hc0) (ltK rfl) (ltK rfl) rfl ?_
  refine vg_getI (pc := 14) (ci := 0) (f := 7) (dK D_Searches_pricesForRoom_0 8 rfl) q_106 (hw_8_0 (hw_6_1 hc0)) (ltK rfl) (ltK rfl) rfl ?_
  refine vg_icmp_ge (pc := 17) (t := 65) (dK D_Searches_pricesForRoom_0 9 rfl) rfl ha4 (g_in _ _ _) (fun hc11 => ?_) (fun hc11 => ?_)
  · replace h := ifP h hc11
    obtain rfl := Option.some.inj h
    refine gL_weak (ls' := [(0, .ref c0), (1, V a1), (2, V a2), (3, V a3)]) (sbc 0 rfl (sbc 1 rfl (sbc 2 rfl (sbc 3 rfl sbn)))) ?_
    exact hx ha3
  · replace h := ifN h hc11
    refine g_iloadn (pc := 20) (i0 := 3) (j := 3) (dK D_Searches_pricesForRoom_0 10 rfl) rfl rfl ?_
    refine vg_iconst (pc := 21) (dK D_Searches_pricesForRoom_0 11 rfl) ?_
    refine vg_icmp_ge (pc := 22) (t := 65) (dK D_Searches_pricesForRoom_0 12 rfl) rfl ha3 (inRk rfl) (fun hc10 => ?_) (fun hc10 => ?_)
    · replace h := ifP h hc10
      obtain rfl := Option.some.inj h
      refine gL_weak (ls' := [(0, .ref c0), (1, V a1), (2, V a2), (3, V a3)]) (sbc 0 rfl (sbc 1 rfl (sbc 2 rfl (sbc 3 rfl sbn)))) ?_
      exact hx ha3
    · replace h := ifN h hc10
      refine g_iload (pc := 25) (j := 4) (dK D_Searches_pricesForRoom_0 13 rfl) rfl ?_
      refine g_iloadn (pc := 27) (i0 := 1) (j := 1) (dK D_Searches_pricesForRoom_0 14 rfl) rfl rfl ?_
      refine vg_icmp_eq (pc := 28) (t := 59) (dK D_Searches_pricesForRoom_0 15 rfl) rfl ha4 ha1 (fun hc9 => ?_) (fun hc9 => ?_)
      · replace h := ifP h hc9
        refine nmE h (fun v1 e_v1 h => ?_)
        refine vg_iinc (pc := 59) (j := 4) (a := a4) (z := 1) (ls2 := [(4, V v1), (0, .ref c0), (1, V a1), (2, V a2), (3, V a3)]) (dK D_Searches_pricesForRoom_0 30 rfl) rfl e_v1 (ltK rfl) rfl ?_
        refine g_goto (pc := 62) (tgt := 5) (dK D_Searches_pricesForRoom_0 31 rfl) rfl ?_
        refine gL_weak (ls' := [(0, .ref c0), (1, V a1), (2, V a2), (3, V a3), (4, V v1)]) (sbc 1 rfl (sbc 2 rfl (sbc 3 rfl (sbc 4 rfl (sbc 0 rfl sbn))))) ?_
        replace h := ih _ h
        exact h ha3 (Vn_in e_v1)
      · replace h := ifN h hc9
        refine g_aloadn (pc := 31) (i0 := 0) (j := 0) (dK D_Searches_pricesForRoom_0 16 rfl) rfl rfl ?_
        refine vg_getO (pc := 32) (ci := 6) (f := 1) (dK D_Searches_pricesForRoom_0 17 rfl) q_370 hc0 (ltK rfl) (ltK rfl) rfl ?_
        refine vg_getO (pc := 35) (ci := 8) (f := 0) (dK D_Searches_pricesForRoom_0 18 rfl) q_221 (hw_6_1 hc0) (ltK rfl) (ltK rfl) rfl ?_
        refine vg_getA (pc := 38) (ci := 0) (f := 6) (dK D_Searches_pricesForRoom_0 19 rfl) q_101 (hw_8_0 (hw_6_1 hc0)) (ltK rfl) (ltK rfl) rfl ?_
        refine g_iload (pc := 41) (j := 4) (dK D_Searches_pricesForRoom_0 20 rfl) rfl ?_
        refine gdE h (fun hi2 h => ?_)
        refine vg_iaload (pc := 43) (j := a4.toNat) (dK D_Searches_pricesForRoom_0 21 rfl) (hw_0_6 (hw_8_0 (hw_6_1 hc0))) rfl hi2 rfl ?_
        refine g_iloadn (pc := 44) (i0 := 2) (j := 2) (dK D_Searches_pricesForRoom_0 22 rfl) rfl rfl ?_
        refine vg_icmp_ne (pc := 45) (t := 59) (dK D_Searches_pricesForRoom_0 23 rfl) rfl (g_in _ _ _) ha2 (fun hc8 => ?_) (fun hc8 => ?_)
        · replace h := ifN h hc8
          refine nmE h (fun v3 e_v3 h => ?_)
          refine vg_iinc (pc := 59) (j := 4) (a := a4) (z := 1) (ls2 := [(4, V v3), (0, .ref c0), (1, V a1), (2, V a2), (3, V a3)]) (dK D_Searches_pricesForRoom_0 30 rfl) rfl e_v3 (ltK rfl) rfl ?_
          refine g_goto (pc := 62) (tgt := 5) (dK D_Searches_pricesForRoom_0 31 rfl) rfl ?_
          refine gL_weak (ls' := [(0, .ref c0), (1, V a1), (2, V a2), (3, V a3), (4, V v3)]) (sbc 1 rfl (sbc 2 rfl (sbc 3 rfl (sbc 4 rfl (sbc 0 rfl sbn))))) ?_
          replace h := ih _ h
          exact h ha3 (Vn_in e_v3)
        · replace h := ifP h hc8
          refine g_aloadn (pc := 48) (i0 := 0) (j := 0) (dK D_Searches_pricesForRoom_0 24 rfl) rfl rfl ?_
          refine vg_getA (pc := 49) (ci := 6) (f := 3) (dK D_Searches_pricesForRoom_0 25 rfl) q_372 hc0 (ltK rfl) (ltK rfl) rfl ?_
          refine g_iloadn (pc := 52) (i0 := 3) (j := 3) (dK D_Searches_pricesForRoom_0 26 rfl) rfl rfl ?_
          refine g_iload (pc := 53) (j := 4) (dK D_Searches_pricesForRoom_0 27 rfl) rfl ?_
          refine gdE h (fun hi4 h => ?_)
          refine nmE h (fun S5 e_S5 h => ?_)
          refine vg_iastore (pc := 55) (z := a4) (dK D_Searches_pricesForRoom_0 28 rfl) (hw_6_3 hc0) rfl hi4 rfl e_S5 ?_
          refine nmE h (fun v6 e_v6 h => ?_)
          refine vg_iinc (pc := 56) (j := 3) (a := a3) (z := 1) (ls2 := [(3, V v6), (0, .ref c0), (1, V a1), (2, V a2), (4, V a4)]) (dK D_Searches_pricesForRoom_0 29 rfl) rfl e_v6 (ltK rfl) rfl ?_
          refine nmE h (fun v7 e_v7 h => ?_)
          refine vg_iinc (pc := 59) (j := 4) (a := a4) (z := 1) (ls2 := [(4, V v7), (3, V v6), (0, .ref c0), (1, V a1), (2, V a2)]) (dK D_Searches_pricesForRoom_0 30 rfl) rfl e_v7 (ltK rfl) rfl ?_
          refine g_goto (pc := 62) (tgt := 5) (dK D_Searches_pricesForRoom_0 31 rfl) rfl ?_
          refine gL_weak (ls' := [(0, .ref c0), (1, V a1), (2, V a2), (3, V v6), (4, V v7)]) (sbc 2 rfl (sbc 3 rfl (sbc 4 rfl (sbc 1 rfl (sbc 0 rfl sbn))))) ?_
          replace h := ih _ h
          exact h (Vn_in e_v6) (Vn_in e_v7)
def lb_Searches_pricesForRoom_71 (c0 : Nat) (a1 : Int) (a2 : Int) (a3 : Int) (S : St) (go : Int × Int → Option (Int)) (a4 : Int) (a5 : Int) : Option (Int) := if (i_shl 1 a3) ≤ a5 then (some a4) else (bnO (fn_Searches_removedPrices c0 a1 a2 a3 a5 S) fun p13 => if p13 = (-1) then (nm (wr (a5 + 1)) fun v14 => go (a4, v14)) else (if a4 = (-1) then (nm (wr (a5 + 1)) fun v15 => go (p13, v15)) else (if a4 ≤ p13 then (nm (wr (a5 + 1)) fun v16 => go (a4, v16)) else (nm (wr (a5 + 1)) fun v17 => go (p13, v17)))))
def lo_Searches_pricesForRoom_71 (c0 : Nat) (a1 : Int) (a2 : Int) (a3 : Int) (S : St) : Nat → Int × Int → Option (Int) := lp fun go p => lb_Searches_pricesForRoom_71 c0 a1 a2 a3 S go p.1 p.2
theorem tl_Searches_pricesForRoom_71 {E : EV} {X : XT} {c0 : Nat} (hc0 : HC X 6 c0) {a1 : Int} (ha1 : inR a1) {a2 : Int} (ha2 : inR a2) {a3 : Int} (ha3 : inR a3) {S : St} {K : RK → PS → Prop} {q : Int} (hx : inR q → Go E M_Searches_pricesForRoom 0 0 119 [(4, V q)] [] (WX X S) 0 0 K) : ∀ n a, lo_Searches_pricesForRoom_71 c0 a1 a2 a3 S n a = some q → inR a.1 → inR a.2 → Go E M_Searches_pricesForRoom 0 0 71 [(0, .ref c0), (1, V a1), (2, V a2), (3, V a3), (4, V a.1), (5, V a.2)] [] (WX X S) 0 0 K := by
  refine lp_ind (P := fun a : Int × Int => inR a.1 → inR a.2 → Go E M_Searches_pricesForRoom 0 0 71 [(0, .ref c0), (1, V a1), (2, V a2), (3, V a3), (4, V a.1), (5, V a.2)] [] (WX X S) 0 0 K) (fun go ih a h => ?_)
  obtain ⟨a4, a5⟩ := a
  intro ha4 ha5
  show Go E M_Searches_pricesForRoom 0 0 71 [(0, .ref c0), (1, V a1), (2, V a2), (3, V a3), (4, V a4), (5, V a5)] [] (WX X S) 0 0 K
  replace h : lb_Searches_pricesForRoom_71 c0 a1 a2 a3 S go a4 a5 = some q := h
  unfold lb_Searches_pricesForRoom_71 at h
  refine g_iload (pc := 71) (j := 5) (dK D_Searches_pricesForRoom_0 36 rfl) rfl ?_
  refine vg_iconst (pc := 73) (dK D_Searches_pricesForRoom_0 37 rfl) ?_
  refine g_iloadn (pc := 74) (i0 := 3) (j := 3) (dK D_Searches_pricesForRoom_0 38 rfl) rfl rfl ?_
  refine vg_ishl (pc := 75) (dK D_Searches_pricesForRoom_0 39 rfl) ?_
  refine vg_icmp_ge (pc := 76) (t := 119) (dK D_Searches_pricesForRoom_0 40 rfl) rfl ha5 (toInt_in _) (fun hc21 => ?_) (fun hc21 => ?_)
  · replace h := ifP h hc21
    obtain rfl := Option.some.inj h
    refine gL_weak (ls' := [(4, V a4)]) (sbc 4 rfl sbn) ?_
    exact hx ha4
  · replace h := ifN h hc21
    refine g_aloadn (pc := 79) (i0 := 0) (j := 0) (dK D_Searches_pricesForRoom_0 41 rfl) rfl rfl ?_
    refine g_iloadn (pc := 80) (i0 := 1) (j := 1) (dK D_Searches_pricesForRoom_0 42 rfl) rfl rfl ?_
    refine g_iloadn (pc := 81) (i0 := 2) (j := 2) (dK D_Searches_pricesForRoom_0 43 rfl) rfl rfl ?_
    refine g_iloadn (pc := 82) (i0 := 3) (j := 3) (dK D_Searches_pricesForRoom_0 44 rfl) rfl rfl ?_
    refine g_iload (pc := 83) (j := 5) (dK D_Searches_pricesForRoom_0 45 rfl) rfl ?_
    refine bnE h (fun p13 e_p13 h => ?_)
    refine vg_cV (pc := 85) (As := [V a1, V a2, V a3, V a5]) (rest := []) (mc' := 0) (ms' := 0) (dK D_Searches_pricesForRoom_0 46 rfl) K_Searches_130 (fitK rfl) (ltK rfl) hc0 rfl (leK rfl) (leK rfl) (leK rfl) (tf_Searches_removedPrices hc0 ha1 ha2 ha3 ha5 e_p13) (kcI (fun h_p13 => ?_))
    refine g_istore (pc := 88) (ls2 := [(6, V p13), (0, .ref c0), (1, V a1), (2, V a2), (3, V a3), (4, V a4), (5, V a5)]) (dK D_Searches_pricesForRoom_0 47 rfl) (ltK rfl) rfl ?_
    refine g_iload (pc := 90) (j := 0) (dK D_Searches_pricesForRoom_0 48 rfl) rfl ?_
    refine vg_iconst (pc := 92) (dK D_Searches_pricesForRoom_0 49 rfl) ?_
    refine vg_icmp_eq (pc := 93) (t := 113) (dK D_Searches_pricesForRoom_1 0 rfl) rfl h_p13 (inRk rfl) (fun hc20 => ?_) (fun hc20 => ?_)
    · replace h := ifP h hc20
      refine nmE h (fun v14 e_v14 h => ?_)
      refine vg_iinc (pc := 113) (j := 6) (a := a5) (z := 1) (ls2 := [(5, V v14), (6, V p13), (0, .ref c0), (1, V a1), (2, V a2), (3, V a3), (4, V a4)]) (dK D_Searches_pricesForRoom_1 9 rfl) rfl e_v14 (ltK rfl) rfl ?_
      refine g_goto (pc := 116) (tgt := 71) (dK D_Searches_pricesForRoom_1 10 rfl) rfl ?_
      refine gL_weak (ls' := [(0, .ref c0), (1, V a1), (2, V a2), (3, V a3), (4, V a4), (5, V v14)]) (sbc 2 rfl (sbc 3 rfl (sbc 4 rfl (sbc 5 rfl (sbc 6 rfl (sbc 0 rfl sbn)))))) ?_
      replace h := ih _ h
      exact h ha4 (Vn_in e_v14)
    · replace h := ifN h hc20
      refine g_iload (pc := 96) (j := 5) (dK D_Searches_pricesForRoom_1 1 rfl) rfl ?_
      refine vg_iconst (pc := 98) (dK D_Searches_pricesForRoom_1 2 rfl) ?_
      refine vg_icmp_eq (pc := 99) (t := 109) (dK D_Searches_pricesForRoom_1 3 rfl) rfl ha4 (inRk rfl) (fun hc19 => ?_) (fun hc19 => ?_)
      · replace h := ifP h hc19
        refine g_iload (pc := 109) (j := 0) (dK D_Searches_pricesForRoom_1 7 rfl) rfl ?_
        refine g_istore (pc := 111) (ls2 := [(4, V p13), (6, V p13), (0, .ref c0), (1, V a1), (2, V a2), (3, V a3), (5, V a5)]) (dK D_Searches_pricesForRoom_1 8 rfl) (ltK rfl) rfl ?_
        refine nmE h (fun v15 e_v15 h => ?_)
        refine vg_iinc (pc := 113) (j := 6) (a := a5) (z := 1) (ls2 := [(5, V v15), (4, V p13), (6, V p13), (0, .ref c0), (1, V a1), (2, V a2), (3, V a3)]) (dK D_Searches_pricesForRoom_1 9 rfl) rfl e_v15 (ltK rfl) rfl ?_
        refine g_goto (pc := 116) (tgt := 71) (dK D_Searches_pricesForRoom_1 10 rfl) rfl ?_
        refine gL_weak (ls' := [(0, .ref c0), (1, V a1), (2, V a2), (3, V a3), (4, V p13), (5, V v15)]) (sbc 3 rfl (sbc 4 rfl (sbc 5 rfl (sbc 6 rfl (sbc 1 rfl (sbc 0 rfl sbn)))))) ?_
        replace h := ih _ h
        exact h h_p13 (Vn_in e_v15)
      · replace h := ifN h hc19
        refine g_iload (pc := 102) (j := 0) (dK D_Searches_pricesForRoom_1 4 rfl) rfl ?_
        refine g_iload (pc := 104) (j := 5) (dK D_Searches_pricesForRoom_1 5 rfl) rfl ?_
        refine vg_icmp_ge (pc := 106) (t := 113) (dK D_Searches_pricesForRoom_1 6 rfl) rfl h_p13 ha4 (fun hc18 => ?_) (fun hc18 => ?_)
        · replace h := ifP h hc18
          refine nmE h (fun v16 e_v16 h => ?_)
          refine vg_iinc (pc := 113) (j := 6) (a := a5) (z := 1) (ls2 := [(5, V v16), (6, V p13), (0, .ref c0), (1, V a1), (2, V a2), (3, V a3), (4, V a4)]) (dK D_Searches_pricesForRoom_1 9 rfl) rfl e_v16 (ltK rfl) rfl ?_
          refine g_goto (pc := 116) (tgt := 71) (dK D_Searches_pricesForRoom_1 10 rfl) rfl ?_
          refine gL_weak (ls' := [(0, .ref c0), (1, V a1), (2, V a2), (3, V a3), (4, V a4), (5, V v16)]) (sbc 2 rfl (sbc 3 rfl (sbc 4 rfl (sbc 5 rfl (sbc 6 rfl (sbc 0 rfl sbn)))))) ?_
          replace h := ih _ h
          exact h ha4 (Vn_in e_v16)
        · replace h := ifN h hc18
          refine g_iload (pc := 109) (j := 0) (dK D_Searches_pricesForRoom_1 7 rfl) rfl ?_
          refine g_istore (pc := 111) (ls2 := [(4, V p13), (6, V p13), (0, .ref c0), (1, V a1), (2, V a2), (3, V a3), (5, V a5)]) (dK D_Searches_pricesForRoom_1 8 rfl) (ltK rfl) rfl ?_
          refine nmE h (fun v17 e_v17 h => ?_)
          refine vg_iinc (pc := 113) (j := 6) (a := a5) (z := 1) (ls2 := [(5, V v17), (4, V p13), (6, V p13), (0, .ref c0), (1, V a1), (2, V a2), (3, V a3)]) (dK D_Searches_pricesForRoom_1 9 rfl) rfl e_v17 (ltK rfl) rfl ?_
          refine g_goto (pc := 116) (tgt := 71) (dK D_Searches_pricesForRoom_1 10 rfl) rfl ?_
          refine gL_weak (ls' := [(0, .ref c0), (1, V a1), (2, V a2), (3, V a3), (4, V p13), (5, V v17)]) (sbc 3 rfl (sbc 4 rfl (sbc 5 rfl (sbc 6 rfl (sbc 1 rfl (sbc 0 rfl sbn)))))) ?_
          replace h := ih _ h
          exact h h_p13 (Vn_in e_v17)
def fn_Searches_pricesForRoom (c0 : Nat) (a1 : Int) (a2 : Int) (S : St) : Option (Int × St) := bnO (lo_Searches_pricesForRoom_5 c0 a1 a2 FU (0, 0, S)) fun p12 => bnO (lo_Searches_pricesForRoom_71 c0 a1 a2 p12.1 p12.2 FU ((-1), 0)) fun p22 => some (p22, p12.2)
theorem tf_Searches_pricesForRoom {E : EV} {X : XT} {c0 : Nat} (hc0 : HC X 6 c0) {a1 : Int} (ha1 : inR a1) {a2 : Int} (ha2 : inR a2) {S : St} {q : Int × St} (h : fn_Searches_pricesForRoom c0 a1 a2 S = some q) : Ev E M_Searches_pricesForRoom [.ref c0, V a1, V a2] (WX X S) 0 0 (KI X q.1 q.2) := by
  refine Ev.of pn_Searches rfl (leK rfl) ?_
  show Go E M_Searches_pricesForRoom 0 0 0 [(0, .ref c0), (1, V a1), (2, V a2)] [] (WX X S) 0 0 (KI X q.1 q.2)
  unfold fn_Searches_pricesForRoom at h
  refine vg_iconst (pc := 0) (dK D_Searches_pricesForRoom_0 0 rfl) ?_
  refine g_istoren (pc := 1) (i0 := 3) (ls2 := [(3, V 0), (0, .ref c0), (1, V a1), (2, V a2)]) (dK D_Searches_pricesForRoom_0 1 rfl) rfl (ltK rfl) rfl ?_
  refine vg_iconst (pc := 2) (dK D_Searches_pricesForRoom_0 2 rfl) ?_
  refine g_istore (pc := 3) (ls2 := [(4, V 0), (3, V 0), (0, .ref c0), (1, V a1), (2, V a2)]) (dK D_Searches_pricesForRoom_0 3 rfl) (ltK rfl) rfl ?_
  refine bnE h (fun p12 e_p12 h => ?_)
  refine gL_weak (ls' := [(0, .ref c0), (1, V a1), (2, V a2), (3, V 0), (4, V 0)]) (sbc 2 rfl (sbc 3 rfl (sbc 4 rfl (sbc 1 rfl (sbc 0 rfl sbn))))) ?_
  refine tl_Searches_pricesForRoom_5 hc0 ha1 ha2 (fun hx3_p12 => ?_) FU (0, 0, S) e_p12 (inRk rfl) (inRk rfl)
  refine vg_iconst (pc := 65) (dK D_Searches_pricesForRoom_0 32 rfl) ?_
  refine g_istore (pc := 66) (ls2 := [(4, V (-1)), (0, .ref c0), (1, V a1), (2, V a2), (3, V p12.1)]) (dK D_Searches_pricesForRoom_0 33 rfl) (ltK rfl) rfl ?_
  refine vg_iconst (pc := 68) (dK D_Searches_pricesForRoom_0 34 rfl) ?_
  refine g_istore (pc := 69) (ls2 := [(5, V 0), (4, V (-1)), (0, .ref c0), (1, V a1), (2, V a2), (3, V p12.1)]) (dK D_Searches_pricesForRoom_0 35 rfl) (ltK rfl) rfl ?_
  refine bnE h (fun p22 e_p22 h => ?_)
  refine gL_weak (ls' := [(0, .ref c0), (1, V a1), (2, V a2), (3, V p12.1), (4, V (-1)), (5, V 0)]) (sbc 2 rfl (sbc 3 rfl (sbc 4 rfl (sbc 5 rfl (sbc 1 rfl (sbc 0 rfl sbn)))))) ?_
  refine tl_Searches_pricesForRoom_71 hc0 ha1 ha2 hx3_p12 (fun hx4_p22 => ?_) FU ((-1), 0) e_p22 (inRk rfl) (inRk rfl)
  refine g_iload (pc := 119) (j := 0) (dK D_Searches_pricesForRoom_1 11 rfl) rfl ?_
  exact vg_iretI (pc := 121) (r := p22) (dK D_Searches_pricesForRoom_1 12 rfl) rfl (leK rfl) (leK rfl) (fun _ => rfl) (by obtain rfl := Option.some.inj h; exact ⟨rfl, hx4_p22, rfl⟩)
def fn_Searches_evictedPrices (c0 : Nat) (a1 : Int) (a2 : Int) (S : St) : Option (Int × St) := bnO (fn_Plan_isUnfit (tgt c0 0) a1 a2 S) fun p1 => if p1 = true then (some ((-1), S)) else (if 0 ≤ a2 ∧ a2 < 65 then (if (g S (tgt (tgt c0 0) 6) a2.toNat) = (-1) then (bnO (fn_Searches_rivalPricesBeside c0 a1 a2 S) fun p4 => bnO (fn_Searches_pricesForRoom c0 a1 a2 S) fun p5 => if p4 = (-1) then (some ((-1), p5.2)) else (if p5.1 = (-1) then (some ((-1), p5.2)) else (some ((wr (p4 + p5.1)), p5.2)))) else (some ((-1), S))) else none)
theorem tf_Searches_evictedPrices {E : EV} {X : XT} {c0 : Nat} (hc0 : HC X 6 c0) {a1 : Int} (ha1 : inR a1) {a2 : Int} (ha2 : inR a2) {S : St} {q : Int × St} (h : fn_Searches_evictedPrices c0 a1 a2 S = some q) : Ev E M_Searches_evictedPrices [.ref c0, V a1, V a2] (WX X S) 0 0 (KI X q.1 q.2) := by
  refine Ev.of pn_Searches rfl (leK rfl) ?_
  show Go E M_Searches_evictedPrices 0 0 0 [(0, .ref c0), (1, V a1), (2, V a2)] [] (WX X S) 0 0 (KI X q.1 q.2)
  unfold fn_Searches_evictedPrices at h
  refine g_aloadn (pc := 0) (i0 := 0) (j := 0) (dK D_Searches_evictedPrices 0 rfl) rfl rfl ?_
  refine vg_getO (pc := 1) (ci := 6) (f := 0) (dK D_Searches_evictedPrices 1 rfl) q_368 hc0 (ltK rfl) (ltK rfl) rfl ?_
  refine g_iloadn (pc := 4) (i0 := 1) (j := 1) (dK D_Searches_evictedPrices 2 rfl) rfl rfl ?_
  refine g_iloadn (pc := 5) (i0 := 2) (j := 2) (dK D_Searches_evictedPrices 3 rfl) rfl rfl ?_
  refine bnE h (fun p1 e_p1 h => ?_)
  refine vg_cV (pc := 6) (As := [V a1, V a2]) (rest := []) (mc' := 0) (ms' := 0) (dK D_Searches_evictedPrices 4 rfl) K_Searches_112 (fitK rfl) (ltK rfl) (hw_6_0 hc0) rfl (leK rfl) (leK rfl) (leK rfl) (tf_Plan_isUnfit (hw_6_0 hc0) ha1 ha2 e_p1) (kcB ?_)
  refine vg_ifB_ne (pc := 9) (b := p1) (t := 25) (dK D_Searches_evictedPrices 5 rfl) rfl (fun hc2 => ?_) (fun hc2 => ?_)
  · replace h := ifP h hc2
    refine vg_iconst (pc := 25) (dK D_Searches_evictedPrices 13 rfl) ?_
    exact vg_iretI (pc := 26) (r := (-1)) (dK D_Searches_evictedPrices 14 rfl) rfl (leK rfl) (leK rfl) (fun _ => rfl) (by obtain rfl := Option.some.inj h; exact ⟨rfl, (inRk rfl), rfl⟩)
  · replace h := ifN h hc2
    refine g_aloadn (pc := 12) (i0 := 0) (j := 0) (dK D_Searches_evictedPrices 6 rfl) rfl rfl ?_
    refine vg_getO (pc := 13) (ci := 6) (f := 0) (dK D_Searches_evictedPrices 7 rfl) q_368 hc0 (ltK rfl) (ltK rfl) rfl ?_
    refine vg_getA (pc := 16) (ci := 4) (f := 6) (dK D_Searches_evictedPrices 8 rfl) q_310 (hw_6_0 hc0) (ltK rfl) (ltK rfl) rfl ?_
    refine g_iloadn (pc := 19) (i0 := 2) (j := 2) (dK D_Searches_evictedPrices 9 rfl) rfl rfl ?_
    refine gdE h (fun hi3 h => ?_)
    refine vg_iaload (pc := 20) (j := a2.toNat) (dK D_Searches_evictedPrices 10 rfl) (hw_4_6 (hw_6_0 hc0)) rfl hi3 rfl ?_
    refine vg_iconst (pc := 21) (dK D_Searches_evictedPrices 11 rfl) ?_
    refine vg_icmp_eq (pc := 22) (t := 27) (dK D_Searches_evictedPrices 12 rfl) rfl (g_in _ _ _) (inRk rfl) (fun hc8 => ?_) (fun hc8 => ?_)
    · replace h := ifP h hc8
      refine g_aloadn (pc := 27) (i0 := 0) (j := 0) (dK D_Searches_evictedPrices 15 rfl) rfl rfl ?_
      refine g_iloadn (pc := 28) (i0 := 1) (j := 1) (dK D_Searches_evictedPrices 16 rfl) rfl rfl ?_
      refine g_iloadn (pc := 29) (i0 := 2) (j := 2) (dK D_Searches_evictedPrices 17 rfl) rfl rfl ?_
      refine bnE h (fun p4 e_p4 h => ?_)
      refine vg_cV (pc := 30) (As := [V a1, V a2]) (rest := []) (mc' := 0) (ms' := 0) (dK D_Searches_evictedPrices 18 rfl) K_Searches_118 (fitK rfl) (ltK rfl) hc0 rfl (leK rfl) (leK rfl) (leK rfl) (tf_Searches_rivalPricesBeside hc0 ha1 ha2 e_p4) (kcI (fun h_p4 => ?_))
      refine g_istoren (pc := 33) (i0 := 3) (ls2 := [(3, V p4), (0, .ref c0), (1, V a1), (2, V a2)]) (dK D_Searches_evictedPrices 19 rfl) rfl (ltK rfl) rfl ?_
      refine g_aloadn (pc := 34) (i0 := 0) (j := 1) (dK D_Searches_evictedPrices 20 rfl) rfl rfl ?_
      refine g_iloadn (pc := 35) (i0 := 1) (j := 2) (dK D_Searches_evictedPrices 21 rfl) rfl rfl ?_
      refine g_iloadn (pc := 36) (i0 := 2) (j := 3) (dK D_Searches_evictedPrices 22 rfl) rfl rfl ?_
      refine bnE h (fun p5 e_p5 h => ?_)
      refine vg_cV (pc := 37) (As := [V a1, V a2]) (rest := []) (mc' := 0) (ms' := 0) (dK D_Searches_evictedPrices 23 rfl) K_Searches_121 (fitK rfl) (ltK rfl) hc0 rfl (leK rfl) (leK rfl) (leK rfl) (tf_Searches_pricesForRoom hc0 ha1 ha2 e_p5) (kcI (fun h_p5 => ?_))
      refine g_istore (pc := 40) (ls2 := [(4, V p5.1), (3, V p4), (0, .ref c0), (1, V a1), (2, V a2)]) (dK D_Searches_evictedPrices 24 rfl) (ltK rfl) rfl ?_
      refine g_iloadn (pc := 42) (i0 := 3) (j := 1) (dK D_Searches_evictedPrices 25 rfl) rfl rfl ?_
      refine vg_iconst (pc := 43) (dK D_Searches_evictedPrices 26 rfl) ?_
      refine vg_icmp_eq (pc := 44) (t := 53) (dK D_Searches_evictedPrices 27 rfl) rfl h_p4 (inRk rfl) (fun hc7 => ?_) (fun hc7 => ?_)
      · replace h := ifP h hc7
        refine vg_iconst (pc := 53) (dK D_Searches_evictedPrices 31 rfl) ?_
        refine g_goto (pc := 54) (tgt := 61) (dK D_Searches_evictedPrices 32 rfl) rfl ?_
        exact vg_iretI (pc := 61) (r := (-1)) (dK D_Searches_evictedPrices 36 rfl) rfl (leK rfl) (leK rfl) (fun _ => rfl) (by obtain rfl := Option.some.inj h; exact ⟨rfl, (inRk rfl), rfl⟩)
      · replace h := ifN h hc7
        refine g_iload (pc := 47) (j := 0) (dK D_Searches_evictedPrices 28 rfl) rfl ?_
        refine vg_iconst (pc := 49) (dK D_Searches_evictedPrices 29 rfl) ?_
        refine vg_icmp_ne (pc := 50) (t := 57) (dK D_Searches_evictedPrices 30 rfl) rfl h_p5 (inRk rfl) (fun hc6 => ?_) (fun hc6 => ?_)
        · replace h := ifN h hc6
          refine g_iloadn (pc := 57) (i0 := 3) (j := 1) (dK D_Searches_evictedPrices 33 rfl) rfl rfl ?_
          refine g_iload (pc := 58) (j := 0) (dK D_Searches_evictedPrices 34 rfl) rfl ?_
          refine vg_iadd (pc := 60) (dK D_Searches_evictedPrices 35 rfl) ?_
          refine gtop (x := (wr (p4 + p5.1))) rfl ?_
          exact vg_iretI (pc := 61) (r := (wr (p4 + p5.1))) (dK D_Searches_evictedPrices 36 rfl) rfl (leK rfl) (leK rfl) (fun _ => rfl) (by obtain rfl := Option.some.inj h; exact ⟨rfl, (wr_in _), rfl⟩)
        · replace h := ifP h hc6
          refine vg_iconst (pc := 53) (dK D_Searches_evictedPrices 31 rfl) ?_
          refine g_goto (pc := 54) (tgt := 61) (dK D_Searches_evictedPrices 32 rfl) rfl ?_
          exact vg_iretI (pc := 61) (r := (-1)) (dK D_Searches_evictedPrices 36 rfl) rfl (leK rfl) (leK rfl) (fun _ => rfl) (by obtain rfl := Option.some.inj h; exact ⟨rfl, (inRk rfl), rfl⟩)
    · replace h := ifN h hc8
      refine vg_iconst (pc := 25) (dK D_Searches_evictedPrices 13 rfl) ?_
      exact vg_iretI (pc := 26) (r := (-1)) (dK D_Searches_evictedPrices 14 rfl) rfl (leK rfl) (leK rfl) (fun _ => rfl) (by obtain rfl := Option.some.inj h; exact ⟨rfl, (inRk rfl), rfl⟩)
def fn_FP_eviction (c0 : Nat) (a1 : Int) (a2 : Int) (S : St) : Option (Nat × Int × St) := bnO (fn_FP_needAd c0 a1 S) fun p1 => if p1 = 0 then (bnO (fn_FP_needPage c0 a2 S) fun p2 => if p2 = 0 then (bnO (fn_Searches_evictedPrices (tgt c0 2) a1 a2 S) fun p3 => some (0, p3.1, p3.2)) else (some (p2, 0, S))) else (some (p1, 0, S))
theorem tf_FP_eviction {E : EV} {X : XT} (hfl : X.2.2.2 = false) {c0 : Nat} (hc0 : HC X 10 c0) {a1 : Int} (ha1 : inR a1) {a2 : Int} (ha2 : inR a2) {S : St} {q : Nat × Int × St} (h : fn_FP_eviction c0 a1 a2 S = some q) : Ev E M_FP_eviction [.ref c0, V a1, V a2] (WX X S) 2 12 (KT X q.1 q.2.2 (KI X q.2.1 q.2.2)) := by
  refine Ev.of pn_FP rfl (leK rfl) ?_
  show Go E M_FP_eviction 2 12 0 [(0, .ref c0), (1, V a1), (2, V a2)] [] (WX X S) 0 0 (KT X q.1 q.2.2 (KI X q.2.1 q.2.2))
  unfold fn_FP_eviction at h
  refine g_aloadn (pc := 0) (i0 := 0) (j := 0) (dK D_FP_eviction 0 rfl) rfl rfl ?_
  refine g_iloadn (pc := 1) (i0 := 1) (j := 1) (dK D_FP_eviction 1 rfl) rfl rfl ?_
  refine bnE h (fun p1 e_p1 h => ?_)
  refine vg_cV (pc := 2) (As := [V a1]) (rest := []) (mc' := 1) (ms' := 6) (dK D_FP_eviction 2 rfl) K_FP_162 (fitK rfl) (ltK rfl) hc0 rfl (leK rfl) (leK rfl) (leK rfl) (tf_FP_needAd hfl hc0 ha1 e_p1) (kcT hfl (fun he5 => kcU ?_) (fun he5 => ⟨rfl, ?_⟩))
  · replace h := ifP h he5
    refine g_aloadn (pc := 5) (i0 := 0) (j := 0) (dK D_FP_eviction 3 rfl) rfl rfl ?_
    refine g_iloadn (pc := 6) (i0 := 2) (j := 2) (dK D_FP_eviction 4 rfl) rfl rfl ?_
    refine bnE h (fun p2 e_p2 h => ?_)
    refine vg_cV (pc := 7) (As := [V a2]) (rest := []) (mc' := 1) (ms' := 6) (dK D_FP_eviction 5 rfl) K_FP_204 (fitK rfl) (ltK rfl) hc0 rfl (leK rfl) (leK rfl) (leK rfl) (tf_FP_needPage hfl hc0 ha2 e_p2) (kcT hfl (fun he4 => kcU ?_) (fun he4 => ⟨rfl, ?_⟩))
    · replace h := ifP h he4
      refine g_aloadn (pc := 10) (i0 := 0) (j := 0) (dK D_FP_eviction 6 rfl) rfl rfl ?_
      refine vg_getO (pc := 11) (ci := 10) (f := 2) (dK D_FP_eviction 7 rfl) q_424 hc0 (ltK rfl) (ltK rfl) rfl ?_
      refine g_iloadn (pc := 14) (i0 := 1) (j := 1) (dK D_FP_eviction 8 rfl) rfl rfl ?_
      refine g_iloadn (pc := 15) (i0 := 2) (j := 2) (dK D_FP_eviction 9 rfl) rfl rfl ?_
      refine bnE h (fun p3 e_p3 h => ?_)
      refine vg_cV (pc := 16) (As := [V a1, V a2]) (rest := []) (mc' := 0) (ms' := 0) (dK D_FP_eviction 10 rfl) K_FP_295 (fitK rfl) (ltK rfl) (hw_10_2 hc0) rfl (leK rfl) (leK rfl) (leK rfl) (tf_Searches_evictedPrices (hw_10_2 hc0) ha1 ha2 e_p3) (kcI (fun h_p3 => ?_))
      exact vg_iretI (pc := 19) (r := p3.1) (dK D_FP_eviction 11 rfl) rfl (leK rfl) (leK rfl) (xf hfl) (by obtain rfl := Option.some.inj h; exact KT_ok ⟨rfl, h_p3, rfl⟩)
    · replace h := ifN h he4
      obtain rfl := Option.some.inj h
      exact KT_thr he4
  · replace h := ifN h he5
    obtain rfl := Option.some.inj h
    exact KT_thr he5
def fn_Law_eviction (c0 : Nat) (a1 : Int) (a2 : Int) (c3 : Nat) (S : St) : Option (Int × St) := bnO (fn_FP_eviction c0 a1 a2 S) fun p1 => if p1.1 = 0 then (nm (ul p1.2.2 c3 0 p1.2.1) fun S2 => some (0, S2)) else (if p1.1 = 1 then (some (1, p1.2.2)) else none)
theorem tf_Law_eviction {E : EV} {X : XT} (hfl : X.2.2.2 = false) {c0 : Nat} (hc0 : HC X 10 c0) {a1 : Int} (ha1 : inR a1) {a2 : Int} (ha2 : inR a2) {c3 : Nat} (hc3 : HA X 3 1 c3) {S : St} {q : Int × St} (h : fn_Law_eviction c0 a1 a2 c3 S = some q) : EvH E M_Law_eviction [.ref c0, V a1, V a2, .ref c3] (WX X S) 2 12 (KI X q.1 q.2) := by
  refine EvH.of pn_Law (leK rfl) ?_
  show Go E M_Law_eviction 2 12 0 [(0, .ref c0), (1, V a1), (2, V a2), (3, .ref c3)] [] (WX X S) 0 0 (KI X q.1 q.2)
  unfold fn_Law_eviction at h
  refine g_aloadn (pc := 0) (i0 := 3) (j := 3) (dK D_Law_eviction 0 rfl) rfl rfl ?_
  refine vg_iconst (pc := 1) (dK D_Law_eviction 1 rfl) ?_
  refine g_aloadn (pc := 2) (i0 := 0) (j := 0) (dK D_Law_eviction 2 rfl) rfl rfl ?_
  refine g_iloadn (pc := 3) (i0 := 1) (j := 1) (dK D_Law_eviction 3 rfl) rfl rfl ?_
  refine g_iloadn (pc := 4) (i0 := 2) (j := 2) (dK D_Law_eviction 4 rfl) rfl rfl ?_
  refine bnE h (fun p1 e_p1 h => ?_)
  refine vg_cVX hfl (pc := 5) (As := [V a1, V a2]) (rest := [V 0, .ref c3]) (mc' := 2) (ms' := 12) (dK D_Law_eviction 5 rfl) K_Law_94 (fitK rfl) (ltK rfl) hc0 rfl (leK rfl) (leK rfl) (leK rfl) (tf_FP_eviction hfl hc0 ha1 ha2 e_p1) (kxT hfl (fun he3 => kxI hfl (fun h_p1 => ?_)) (fun he3 => ?_))
  · replace h := ifP h he3
    refine vg_i2l (pc := 8) (dK D_Law_eviction 6 rfl) h_p1 ?_
    refine nmE h (fun S2 e_S2 h => ?_)
    refine vg_lastore (pc := 9) (z := p1.2.1) (dK D_Law_eviction 7 rfl) hc3 rfl ⟨by decide, by decide⟩ rfl e_S2 ?_
    refine g_goto (pc := 10) (tgt := 17) (dK D_Law_eviction 8 rfl) rfl ?_
    refine vg_iconst (pc := 17) (dK D_Law_eviction 12 rfl) ?_
    exact vg_iretI (pc := 18) (r := 0) (dK D_Law_eviction 13 rfl) rfl (leK rfl) (leK rfl) (xf hfl) (by obtain rfl := Option.some.inj h; exact ⟨rfl, (inRk rfl), rfl⟩)
  · replace h := ifN h he3
    by_cases hq4 : p1.1 = 1
    · have h := ifP h hq4
      rw [hq4]
      exact ⟨_, CT_Law_eviction_5_1, (by obtain rfl := Option.some.inj h; exact ⟨rfl, (inRk rfl), rfl⟩)⟩
    · replace h := ifN h hq4
      exact nomatch h
def lb_Searches_cheapestFor_7 (c0 : Nat) (a1 : Int) (go : Int × Int × Int × St → Option (Int × St)) (a2 : Int) (a3 : Int) (a4 : Int) (S : St) : Option (Int × St) := if (g S (tgt c0 0) 1) < a4 then (some (a2, S)) else (bnO (fn_Searches_evictedPrices c0 a1 a4 S) fun p1 => if p1.1 = (-1) then (nm (wr (a4 + 1)) fun v2 => go (a2, a3, v2, p1.2)) else (if a2 = (-1) then (nm (wr (a4 + 1)) fun v3 => go (a4, p1.1, v3, p1.2)) else (if a3 ≤ p1.1 then (nm (wr (a4 + 1)) fun v4 => go (a2, a3, v4, p1.2)) else (nm (wr (a4 + 1)) fun v5 => go (a4, p1.1, v5, p1.2)))))
def lo_Searches_cheapestFor_7 (c0 : Nat) (a1 : Int) : Nat → Int × Int × Int × St → Option (Int × St) := lp fun go p => lb_Searches_cheapestFor_7 c0 a1 go p.1 p.2.1 p.2.2.1 p.2.2.2
theorem tl_Searches_cheapestFor_7 {E : EV} {X : XT} {c0 : Nat} (hc0 : HC X 6 c0) {a1 : Int} (ha1 : inR a1) {K : RK → PS → Prop} {q : Int × St} (hx : inR q.1 → Go E M_Searches_cheapestFor 0 0 57 [(2, V q.1)] [] (WX X q.2) 0 0 K) : ∀ n a, lo_Searches_cheapestFor_7 c0 a1 n a = some q → inR a.1 → inR a.2.1 → inR a.2.2.1 → Go E M_Searches_cheapestFor 0 0 7 [(0, .ref c0), (1, V a1), (2, V a.1), (3, V a.2.1), (4, V a.2.2.1)] [] (WX X a.2.2.2) 0 0 K := by
  refine lp_ind (P := fun a : Int × Int × Int × St => inR a.1 → inR a.2.1 → inR a.2.2.1 → Go E M_Searches_cheapestFor 0 0 7 [(0, .ref c0), (1, V a1), (2, V a.1), (3, V a.2.1), (4, V a.2.2.1)] [] (WX X a.2.2.2) 0 0 K) (fun go ih a h => ?_)
  obtain ⟨a2, a3, a4, S⟩ := a
  intro ha2 ha3 ha4
  show Go E M_Searches_cheapestFor 0 0 7 [(0, .ref c0), (1, V a1), (2, V a2), (3, V a3), (4, V a4)] [] (WX X S) 0 0 K
  replace h : lb_Searches_cheapestFor_7 c0 a1 go a2 a3 a4 S = some q := h
  unfold lb_Searches_cheapestFor_7 at h
  refine g_iload (pc := 7) (j := 4) (dK D_Searches_cheapestFor 6 rfl) rfl ?_
  refine g_aloadn (pc := 9) (i0 := 0) (j := 0) (dK D_Searches_cheapestFor 7 rfl) rfl rfl ?_
  refine vg_getO (pc := 10) (ci := 6) (f := 0) (dK D_Searches_cheapestFor 8 rfl) q_368 hc0 (ltK rfl) (ltK rfl) rfl ?_
  refine vg_getI (pc := 13) (ci := 4) (f := 1) (dK D_Searches_cheapestFor 9 rfl) q_295 (hw_6_0 hc0) (ltK rfl) (ltK rfl) rfl ?_
  refine vg_icmp_gt (pc := 16) (t := 57) (dK D_Searches_cheapestFor 10 rfl) rfl ha4 (g_in _ _ _) (fun hc9 => ?_) (fun hc9 => ?_)
  · replace h := ifP h hc9
    obtain rfl := Option.some.inj h
    refine gL_weak (ls' := [(2, V a2)]) (sbc 2 rfl sbn) ?_
    exact hx ha2
  · replace h := ifN h hc9
    refine g_aloadn (pc := 19) (i0 := 0) (j := 0) (dK D_Searches_cheapestFor 11 rfl) rfl rfl ?_
    refine g_iloadn (pc := 20) (i0 := 1) (j := 1) (dK D_Searches_cheapestFor 12 rfl) rfl rfl ?_
    refine g_iload (pc := 21) (j := 4) (dK D_Searches_cheapestFor 13 rfl) rfl ?_
    refine bnE h (fun p1 e_p1 h => ?_)
    refine vg_cV (pc := 23) (As := [V a1, V a4]) (rest := []) (mc' := 0) (ms' := 0) (dK D_Searches_cheapestFor 14 rfl) K_Searches_137 (fitK rfl) (ltK rfl) hc0 rfl (leK rfl) (leK rfl) (leK rfl) (tf_Searches_evictedPrices hc0 ha1 ha4 e_p1) (kcI (fun h_p1 => ?_))
    refine g_istore (pc := 26) (ls2 := [(5, V p1.1), (0, .ref c0), (1, V a1), (2, V a2), (3, V a3), (4, V a4)]) (dK D_Searches_cheapestFor 15 rfl) (ltK rfl) rfl ?_
    refine g_iload (pc := 28) (j := 0) (dK D_Searches_cheapestFor 16 rfl) rfl ?_
    refine vg_iconst (pc := 30) (dK D_Searches_cheapestFor 17 rfl) ?_
    refine vg_icmp_eq (pc := 31) (t := 51) (dK D_Searches_cheapestFor 18 rfl) rfl h_p1 (inRk rfl) (fun hc8 => ?_) (fun hc8 => ?_)
    · replace h := ifP h hc8
      refine nmE h (fun v2 e_v2 h => ?_)
      refine vg_iinc (pc := 51) (j := 5) (a := a4) (z := 1) (ls2 := [(4, V v2), (5, V p1.1), (0, .ref c0), (1, V a1), (2, V a2), (3, V a3)]) (dK D_Searches_cheapestFor 29 rfl) rfl e_v2 (ltK rfl) rfl ?_
      refine g_goto (pc := 54) (tgt := 7) (dK D_Searches_cheapestFor 30 rfl) rfl ?_
      refine gL_weak (ls' := [(0, .ref c0), (1, V a1), (2, V a2), (3, V a3), (4, V v2)]) (sbc 2 rfl (sbc 3 rfl (sbc 4 rfl (sbc 5 rfl (sbc 0 rfl sbn))))) ?_
      replace h := ih _ h
      exact h ha2 ha3 (Vn_in e_v2)
    · replace h := ifN h hc8
      refine g_iloadn (pc := 34) (i0 := 2) (j := 3) (dK D_Searches_cheapestFor 19 rfl) rfl rfl ?_
      refine vg_iconst (pc := 35) (dK D_Searches_cheapestFor 20 rfl) ?_
      refine vg_icmp_eq (pc := 36) (t := 45) (dK D_Searches_cheapestFor 21 rfl) rfl ha2 (inRk rfl) (fun hc7 => ?_) (fun hc7 => ?_)
      · replace h := ifP h hc7
        refine g_iload (pc := 45) (j := 5) (dK D_Searches_cheapestFor 25 rfl) rfl ?_
        refine g_istoren (pc := 47) (i0 := 2) (ls2 := [(2, V a4), (5, V p1.1), (0, .ref c0), (1, V a1), (3, V a3), (4, V a4)]) (dK D_Searches_cheapestFor 26 rfl) rfl (ltK rfl) rfl ?_
        refine g_iload (pc := 48) (j := 1) (dK D_Searches_cheapestFor 27 rfl) rfl ?_
        refine g_istoren (pc := 50) (i0 := 3) (ls2 := [(3, V p1.1), (2, V a4), (5, V p1.1), (0, .ref c0), (1, V a1), (4, V a4)]) (dK D_Searches_cheapestFor 28 rfl) rfl (ltK rfl) rfl ?_
        refine nmE h (fun v3 e_v3 h => ?_)
        refine vg_iinc (pc := 51) (j := 5) (a := a4) (z := 1) (ls2 := [(4, V v3), (3, V p1.1), (2, V a4), (5, V p1.1), (0, .ref c0), (1, V a1)]) (dK D_Searches_cheapestFor 29 rfl) rfl e_v3 (ltK rfl) rfl ?_
        refine g_goto (pc := 54) (tgt := 7) (dK D_Searches_cheapestFor 30 rfl) rfl ?_
        refine gL_weak (ls' := [(0, .ref c0), (1, V a1), (2, V a4), (3, V p1.1), (4, V v3)]) (sbc 4 rfl (sbc 5 rfl (sbc 2 rfl (sbc 1 rfl (sbc 0 rfl sbn))))) ?_
        replace h := ih _ h
        exact h ha4 h_p1 (Vn_in e_v3)
      · replace h := ifN h hc7
        refine g_iload (pc := 39) (j := 0) (dK D_Searches_cheapestFor 22 rfl) rfl ?_
        refine g_iloadn (pc := 41) (i0 := 3) (j := 4) (dK D_Searches_cheapestFor 23 rfl) rfl rfl ?_
        refine vg_icmp_ge (pc := 42) (t := 51) (dK D_Searches_cheapestFor 24 rfl) rfl h_p1 ha3 (fun hc6 => ?_) (fun hc6 => ?_)
        · replace h := ifP h hc6
          refine nmE h (fun v4 e_v4 h => ?_)
          refine vg_iinc (pc := 51) (j := 5) (a := a4) (z := 1) (ls2 := [(4, V v4), (5, V p1.1), (0, .ref c0), (1, V a1), (2, V a2), (3, V a3)]) (dK D_Searches_cheapestFor 29 rfl) rfl e_v4 (ltK rfl) rfl ?_
          refine g_goto (pc := 54) (tgt := 7) (dK D_Searches_cheapestFor 30 rfl) rfl ?_
          refine gL_weak (ls' := [(0, .ref c0), (1, V a1), (2, V a2), (3, V a3), (4, V v4)]) (sbc 2 rfl (sbc 3 rfl (sbc 4 rfl (sbc 5 rfl (sbc 0 rfl sbn))))) ?_
          replace h := ih _ h
          exact h ha2 ha3 (Vn_in e_v4)
        · replace h := ifN h hc6
          refine g_iload (pc := 45) (j := 5) (dK D_Searches_cheapestFor 25 rfl) rfl ?_
          refine g_istoren (pc := 47) (i0 := 2) (ls2 := [(2, V a4), (5, V p1.1), (0, .ref c0), (1, V a1), (3, V a3), (4, V a4)]) (dK D_Searches_cheapestFor 26 rfl) rfl (ltK rfl) rfl ?_
          refine g_iload (pc := 48) (j := 1) (dK D_Searches_cheapestFor 27 rfl) rfl ?_
          refine g_istoren (pc := 50) (i0 := 3) (ls2 := [(3, V p1.1), (2, V a4), (5, V p1.1), (0, .ref c0), (1, V a1), (4, V a4)]) (dK D_Searches_cheapestFor 28 rfl) rfl (ltK rfl) rfl ?_
          refine nmE h (fun v5 e_v5 h => ?_)
          refine vg_iinc (pc := 51) (j := 5) (a := a4) (z := 1) (ls2 := [(4, V v5), (3, V p1.1), (2, V a4), (5, V p1.1), (0, .ref c0), (1, V a1)]) (dK D_Searches_cheapestFor 29 rfl) rfl e_v5 (ltK rfl) rfl ?_
          refine g_goto (pc := 54) (tgt := 7) (dK D_Searches_cheapestFor 30 rfl) rfl ?_
          refine gL_weak (ls' := [(0, .ref c0), (1, V a1), (2, V a4), (3, V p1.1), (4, V v5)]) (sbc 4 rfl (sbc 5 rfl (sbc 2 rfl (sbc 1 rfl (sbc 0 rfl sbn))))) ?_
          replace h := ih _ h
          exact h ha4 h_p1 (Vn_in e_v5)
def fn_Searches_cheapestFor (c0 : Nat) (a1 : Int) (S : St) : Option (Int × St) := bnO (lo_Searches_cheapestFor_7 c0 a1 FU ((-1), 0, 1, S)) fun p10 => some (p10.1, p10.2)
theorem tf_Searches_cheapestFor {E : EV} {X : XT} {c0 : Nat} (hc0 : HC X 6 c0) {a1 : Int} (ha1 : inR a1) {S : St} {q : Int × St} (h : fn_Searches_cheapestFor c0 a1 S = some q) : Ev E M_Searches_cheapestFor [.ref c0, V a1] (WX X S) 0 0 (KI X q.1 q.2) := by
  refine Ev.of pn_Searches rfl (leK rfl) ?_
  show Go E M_Searches_cheapestFor 0 0 0 [(0, .ref c0), (1, V a1)] [] (WX X S) 0 0 (KI X q.1 q.2)
  unfold fn_Searches_cheapestFor at h
  refine vg_iconst (pc := 0) (dK D_Searches_cheapestFor 0 rfl) ?_
  refine g_istoren (pc := 1) (i0 := 2) (ls2 := [(2, V (-1)), (0, .ref c0), (1, V a1)]) (dK D_Searches_cheapestFor 1 rfl) rfl (ltK rfl) rfl ?_
  refine vg_iconst (pc := 2) (dK D_Searches_cheapestFor 2 rfl) ?_
  refine g_istoren (pc := 3) (i0 := 3) (ls2 := [(3, V 0), (2, V (-1)), (0, .ref c0), (1, V a1)]) (dK D_Searches_cheapestFor 3 rfl) rfl (ltK rfl) rfl ?_
  refine vg_iconst (pc := 4) (dK D_Searches_cheapestFor 4 rfl) ?_
  refine g_istore (pc := 5) (ls2 := [(4, V 1), (3, V 0), (2, V (-1)), (0, .ref c0), (1, V a1)]) (dK D_Searches_cheapestFor 5 rfl) (ltK rfl) rfl ?_
  refine bnE h (fun p10 e_p10 h => ?_)
  refine gL_weak (ls' := [(0, .ref c0), (1, V a1), (2, V (-1)), (3, V 0), (4, V 1)]) (sbc 3 rfl (sbc 4 rfl (sbc 2 rfl (sbc 1 rfl (sbc 0 rfl sbn))))) ?_
  refine tl_Searches_cheapestFor_7 hc0 ha1 (fun hx2_p10 => ?_) FU ((-1), 0, 1, S) e_p10 (inRk rfl) (inRk rfl) (inRk rfl)
  refine g_iloadn (pc := 57) (i0 := 2) (j := 0) (dK D_Searches_cheapestFor 31 rfl) rfl rfl ?_
  exact vg_iretI (pc := 58) (r := p10.1) (dK D_Searches_cheapestFor 32 rfl) rfl (leK rfl) (leK rfl) (fun _ => rfl) (by obtain rfl := Option.some.inj h; exact ⟨rfl, hx2_p10, rfl⟩)
def fn_FP_cheapestPage (c0 : Nat) (a1 : Int) (S : St) : Option (Nat × Int × St) := bnO (fn_FP_needAd c0 a1 S) fun p1 => if p1 = 0 then (bnO (fn_Searches_cheapestFor (tgt c0 2) a1 S) fun p2 => some (0, p2.1, p2.2)) else (some (p1, 0, S))
theorem tf_FP_cheapestPage {E : EV} {X : XT} (hfl : X.2.2.2 = false) {c0 : Nat} (hc0 : HC X 10 c0) {a1 : Int} (ha1 : inR a1) {S : St} {q : Nat × Int × St} (h : fn_FP_cheapestPage c0 a1 S = some q) : Ev E M_FP_cheapestPage [.ref c0, V a1] (WX X S) 1 6 (KT X q.1 q.2.2 (KI X q.2.1 q.2.2)) := by
  refine Ev.of pn_FP rfl (leK rfl) ?_
  show Go E M_FP_cheapestPage 1 6 0 [(0, .ref c0), (1, V a1)] [] (WX X S) 0 0 (KT X q.1 q.2.2 (KI X q.2.1 q.2.2))
  unfold fn_FP_cheapestPage at h
  refine g_aloadn (pc := 0) (i0 := 0) (j := 0) (dK D_FP_cheapestPage 0 rfl) rfl rfl ?_
  refine g_iloadn (pc := 1) (i0 := 1) (j := 1) (dK D_FP_cheapestPage 1 rfl) rfl rfl ?_
  refine bnE h (fun p1 e_p1 h => ?_)
  refine vg_cV (pc := 2) (As := [V a1]) (rest := []) (mc' := 1) (ms' := 6) (dK D_FP_cheapestPage 2 rfl) K_FP_162 (fitK rfl) (ltK rfl) hc0 rfl (leK rfl) (leK rfl) (leK rfl) (tf_FP_needAd hfl hc0 ha1 e_p1) (kcT hfl (fun he3 => kcU ?_) (fun he3 => ⟨rfl, ?_⟩))
  · replace h := ifP h he3
    refine g_aloadn (pc := 5) (i0 := 0) (j := 0) (dK D_FP_cheapestPage 3 rfl) rfl rfl ?_
    refine vg_getO (pc := 6) (ci := 10) (f := 2) (dK D_FP_cheapestPage 4 rfl) q_424 hc0 (ltK rfl) (ltK rfl) rfl ?_
    refine g_iloadn (pc := 9) (i0 := 1) (j := 1) (dK D_FP_cheapestPage 5 rfl) rfl rfl ?_
    refine bnE h (fun p2 e_p2 h => ?_)
    refine vg_cV (pc := 10) (As := [V a1]) (rest := []) (mc' := 0) (ms' := 0) (dK D_FP_cheapestPage 6 rfl) K_FP_298 (fitK rfl) (ltK rfl) (hw_10_2 hc0) rfl (leK rfl) (leK rfl) (leK rfl) (tf_Searches_cheapestFor (hw_10_2 hc0) ha1 e_p2) (kcI (fun h_p2 => ?_))
    exact vg_iretI (pc := 13) (r := p2.1) (dK D_FP_cheapestPage 7 rfl) rfl (leK rfl) (leK rfl) (xf hfl) (by obtain rfl := Option.some.inj h; exact KT_ok ⟨rfl, h_p2, rfl⟩)
  · replace h := ifN h he3
    obtain rfl := Option.some.inj h
    exact KT_thr he3
def fn_Law_cheapestPage (c0 : Nat) (a1 : Int) (c2 : Nat) (S : St) : Option (Int × St) := bnO (fn_FP_cheapestPage c0 a1 S) fun p1 => if p1.1 = 0 then (nm (ul p1.2.2 c2 0 p1.2.1) fun S2 => some (0, S2)) else (if p1.1 = 1 then (some (1, p1.2.2)) else none)
theorem tf_Law_cheapestPage {E : EV} {X : XT} (hfl : X.2.2.2 = false) {c0 : Nat} (hc0 : HC X 10 c0) {a1 : Int} (ha1 : inR a1) {c2 : Nat} (hc2 : HA X 3 1 c2) {S : St} {q : Int × St} (h : fn_Law_cheapestPage c0 a1 c2 S = some q) : EvH E M_Law_cheapestPage [.ref c0, V a1, .ref c2] (WX X S) 1 6 (KI X q.1 q.2) := by
  refine EvH.of pn_Law (leK rfl) ?_
  show Go E M_Law_cheapestPage 1 6 0 [(0, .ref c0), (1, V a1), (2, .ref c2)] [] (WX X S) 0 0 (KI X q.1 q.2)
  unfold fn_Law_cheapestPage at h
  refine g_aloadn (pc := 0) (i0 := 2) (j := 2) (dK D_Law_cheapestPage 0 rfl) rfl rfl ?_
  refine vg_iconst (pc := 1) (dK D_Law_cheapestPage 1 rfl) ?_
  refine g_aloadn (pc := 2) (i0 := 0) (j := 0) (dK D_Law_cheapestPage 2 rfl) rfl rfl ?_
  refine g_iloadn (pc := 3) (i0 := 1) (j := 1) (dK D_Law_cheapestPage 3 rfl) rfl rfl ?_
  refine bnE h (fun p1 e_p1 h => ?_)
  refine vg_cVX hfl (pc := 4) (As := [V a1]) (rest := [V 0, .ref c2]) (mc' := 1) (ms' := 6) (dK D_Law_cheapestPage 4 rfl) K_Law_97 (fitK rfl) (ltK rfl) hc0 rfl (leK rfl) (leK rfl) (leK rfl) (tf_FP_cheapestPage hfl hc0 ha1 e_p1) (kxT hfl (fun he3 => kxI hfl (fun h_p1 => ?_)) (fun he3 => ?_))
  · replace h := ifP h he3
    refine vg_i2l (pc := 7) (dK D_Law_cheapestPage 5 rfl) h_p1 ?_
    refine nmE h (fun S2 e_S2 h => ?_)
    refine vg_lastore (pc := 8) (z := p1.2.1) (dK D_Law_cheapestPage 6 rfl) hc2 rfl ⟨by decide, by decide⟩ rfl e_S2 ?_
    refine g_goto (pc := 9) (tgt := 15) (dK D_Law_cheapestPage 7 rfl) rfl ?_
    refine vg_iconst (pc := 15) (dK D_Law_cheapestPage 11 rfl) ?_
    exact vg_iretI (pc := 16) (r := 0) (dK D_Law_cheapestPage 12 rfl) rfl (leK rfl) (leK rfl) (xf hfl) (by obtain rfl := Option.some.inj h; exact ⟨rfl, (inRk rfl), rfl⟩)
  · replace h := ifN h he3
    by_cases hq4 : p1.1 = 1
    · have h := ifP h hq4
      rw [hq4]
      exact ⟨_, CT_Law_cheapestPage_4_1, (by obtain rfl := Option.some.inj h; exact ⟨rfl, (inRk rfl), rfl⟩)⟩
    · replace h := ifN h hq4
      exact nomatch h
def fn_Integer_bitCount (a0 : Int) (S : St) : Option (Int) := nm (wr (a0 - (i_and (i_ushr a0 1) 1431655765))) fun v1 => nm (wr ((i_and v1 858993459) + (i_and (i_ushr v1 2) 858993459))) fun v2 => nm (wr ((i_and (v2 + (i_ushr v2 4)) 252645135) + (i_ushr (i_and (v2 + (i_ushr v2 4)) 252645135) 8))) fun v3 => nm (wr (v3 + (i_ushr v3 16))) fun v4 => some (i_and v4 63)
theorem tf_Integer_bitCount {E : EV} {X : XT} {a0 : Int} (ha0 : inR a0) {S : St} {q : Int} (h : fn_Integer_bitCount a0 S = some q) : Ev E M_Integer_bitCount [V a0] (WX X S) 0 0 (KI X q S) := by
  refine Ev.of pn_Integer rfl (leK rfl) ?_
  show Go E M_Integer_bitCount 0 0 0 [(0, V a0)] [] (WX X S) 0 0 (KI X q S)
  unfold fn_Integer_bitCount at h
  refine g_iloadn (pc := 0) (i0 := 0) (j := 0) (dK D_Integer_bitCount 0 rfl) rfl rfl ?_
  refine g_iloadn (pc := 1) (i0 := 0) (j := 0) (dK D_Integer_bitCount 1 rfl) rfl rfl ?_
  refine vg_iconst (pc := 2) (dK D_Integer_bitCount 2 rfl) ?_
  refine vg_iushr (pc := 3) (dK D_Integer_bitCount 3 rfl) ?_
  refine vg_ldcw (pc := 4) (y := 1431655765) (dK D_Integer_bitCount 4 rfl) q_1347 rfl ?_
  refine vg_iand (pc := 7) (dK D_Integer_bitCount 5 rfl) ?_
  refine vg_isub (pc := 8) (dK D_Integer_bitCount 6 rfl) ?_
  refine nmE h (fun v1 e_v1 h => ?_)
  refine gtop e_v1 ?_
  refine g_istoren (pc := 9) (i0 := 0) (ls2 := [(0, V v1)]) (dK D_Integer_bitCount 7 rfl) rfl (ltK rfl) rfl ?_
  refine g_iloadn (pc := 10) (i0 := 0) (j := 0) (dK D_Integer_bitCount 8 rfl) rfl rfl ?_
  refine vg_ldcw (pc := 11) (y := 858993459) (dK D_Integer_bitCount 9 rfl) q_1348 rfl ?_
  refine vg_iand (pc := 14) (dK D_Integer_bitCount 10 rfl) ?_
  refine g_iloadn (pc := 15) (i0 := 0) (j := 0) (dK D_Integer_bitCount 11 rfl) rfl rfl ?_
  refine vg_iconst (pc := 16) (dK D_Integer_bitCount 12 rfl) ?_
  refine vg_iushr (pc := 17) (dK D_Integer_bitCount 13 rfl) ?_
  refine vg_ldcw (pc := 18) (y := 858993459) (dK D_Integer_bitCount 14 rfl) q_1348 rfl ?_
  refine vg_iand (pc := 21) (dK D_Integer_bitCount 15 rfl) ?_
  refine vg_iadd (pc := 22) (dK D_Integer_bitCount 16 rfl) ?_
  refine nmE h (fun v2 e_v2 h => ?_)
  refine gtop e_v2 ?_
  refine g_istoren (pc := 23) (i0 := 0) (ls2 := [(0, V v2)]) (dK D_Integer_bitCount 17 rfl) rfl (ltK rfl) rfl ?_
  refine g_iloadn (pc := 24) (i0 := 0) (j := 0) (dK D_Integer_bitCount 18 rfl) rfl rfl ?_
  refine g_iloadn (pc := 25) (i0 := 0) (j := 0) (dK D_Integer_bitCount 19 rfl) rfl rfl ?_
  refine vg_iconst (pc := 26) (dK D_Integer_bitCount 20 rfl) ?_
  refine vg_iushr (pc := 27) (dK D_Integer_bitCount 21 rfl) ?_
  refine vg_iadd (pc := 28) (dK D_Integer_bitCount 22 rfl) ?_
  refine vg_ldcw (pc := 29) (y := 252645135) (dK D_Integer_bitCount 23 rfl) q_1349 rfl ?_
  refine vg_iand (pc := 32) (dK D_Integer_bitCount 24 rfl) ?_
  refine g_istoren (pc := 33) (i0 := 0) (ls2 := [(0, V (i_and (v2 + (i_ushr v2 4)) 252645135))]) (dK D_Integer_bitCount 25 rfl) rfl (ltK rfl) rfl ?_
  refine g_iloadn (pc := 34) (i0 := 0) (j := 0) (dK D_Integer_bitCount 26 rfl) rfl rfl ?_
  refine g_iloadn (pc := 35) (i0 := 0) (j := 0) (dK D_Integer_bitCount 27 rfl) rfl rfl ?_
  refine vg_bipush (pc := 36) (dK D_Integer_bitCount 28 rfl) rfl ?_
  refine vg_iushr (pc := 38) (dK D_Integer_bitCount 29 rfl) ?_
  refine vg_iadd (pc := 39) (dK D_Integer_bitCount 30 rfl) ?_
  refine nmE h (fun v3 e_v3 h => ?_)
  refine gtop e_v3 ?_
  refine g_istoren (pc := 40) (i0 := 0) (ls2 := [(0, V v3)]) (dK D_Integer_bitCount 31 rfl) rfl (ltK rfl) rfl ?_
  refine g_iloadn (pc := 41) (i0 := 0) (j := 0) (dK D_Integer_bitCount 32 rfl) rfl rfl ?_
  refine g_iloadn (pc := 42) (i0 := 0) (j := 0) (dK D_Integer_bitCount 33 rfl) rfl rfl ?_
  refine vg_bipush (pc := 43) (dK D_Integer_bitCount 34 rfl) rfl ?_
  refine vg_iushr (pc := 45) (dK D_Integer_bitCount 35 rfl) ?_
  refine vg_iadd (pc := 46) (dK D_Integer_bitCount 36 rfl) ?_
  refine nmE h (fun v4 e_v4 h => ?_)
  refine gtop e_v4 ?_
  refine g_istoren (pc := 47) (i0 := 0) (ls2 := [(0, V v4)]) (dK D_Integer_bitCount 37 rfl) rfl (ltK rfl) rfl ?_
  refine g_iloadn (pc := 48) (i0 := 0) (j := 0) (dK D_Integer_bitCount 38 rfl) rfl rfl ?_
  refine vg_bipush (pc := 49) (dK D_Integer_bitCount 39 rfl) rfl ?_
  refine vg_iand (pc := 51) (dK D_Integer_bitCount 40 rfl) ?_
  exact vg_iretI (pc := 52) (r := (i_and v4 63)) (dK D_Integer_bitCount 41 rfl) rfl (leK rfl) (leK rfl) (fun _ => rfl) (by obtain rfl := Option.some.inj h; exact ⟨rfl, (toInt_in _), rfl⟩)
def lb_Searches_leftOnSet_4 (c0 : Nat) (a1 : Int) (S : St) (go : Int × Int → Option ((Int) ⊕ (Int))) (a2 : Int) (a3 : Int) : Option ((Int) ⊕ (Int)) := if (g S (tgt c0 0) 2) ≤ a3 then (some (.inr a2)) else (if (i_and (i_shr a1 a3) 1) = 1 then (if 0 ≤ a3 ∧ a3 < 8 then (if (g S (tgt (tgt (tgt c0 1) 3) 1) a3.toNat) = 1 then (some (.inl (-1))) else (if (g S (tgt (tgt (tgt c0 1) 3) 0) a3.toNat) = 1 then (some (.inl (-1))) else (bnO (fn_Plan_leftOnForm (tgt c0 0) a3 S) fun p3 => nm (wr (a2 + p3)) fun v4 => nm (wr (a3 + 1)) fun v5 => go (v4, v5)))) else none) else (nm (wr (a3 + 1)) fun v1 => go (a2, v1)))
def lo_Searches_leftOnSet_4 (c0 : Nat) (a1 : Int) (S : St) : Nat → Int × Int → Option ((Int) ⊕ (Int)) := lp fun go p => lb_Searches_leftOnSet_4 c0 a1 S go p.1 p.2
theorem tl_Searches_leftOnSet_4 {E : EV} {X : XT} {c0 : Nat} (hc0 : HC X 6 c0) {a1 : Int} (ha1 : inR a1) {S : St} {K : RK → PS → Prop} {q : (Int) ⊕ (Int)} (hx : ∀ p, q = .inr p → inR p → Go E M_Searches_leftOnSet 0 0 75 [(2, V p)] [] (WX X S) 0 0 K) (hr : ∀ p, q = .inl p → inR p → K (.inl (some (V p))) (WX X S)) : ∀ n a, lo_Searches_leftOnSet_4 c0 a1 S n a = some q → inR a.1 → inR a.2 → Go E M_Searches_leftOnSet 0 0 4 [(0, .ref c0), (1, V a1), (2, V a.1), (3, V a.2)] [] (WX X S) 0 0 K := by
  refine lp_ind (P := fun a : Int × Int => inR a.1 → inR a.2 → Go E M_Searches_leftOnSet 0 0 4 [(0, .ref c0), (1, V a1), (2, V a.1), (3, V a.2)] [] (WX X S) 0 0 K) (fun go ih a h => ?_)
  obtain ⟨a2, a3⟩ := a
  intro ha2 ha3
  show Go E M_Searches_leftOnSet 0 0 4 [(0, .ref c0), (1, V a1), (2, V a2), (3, V a3)] [] (WX X S) 0 0 K
  replace h : lb_Searches_leftOnSet_4 c0 a1 S go a2 a3 = some q := h
  unfold lb_Searches_leftOnSet_4 at h
  refine g_iloadn (pc := 4) (i0 := 3) (j := 3) (dK D_Searches_leftOnSet 4 rfl) rfl rfl ?_
  refine g_aloadn (pc := 5) (i0 := 0) (j := 0) (dK D_Searches_leftOnSet 5 rfl) rfl rfl ?_
  refine vg_getO (pc := 6) (ci := 6) (f := 0) (dK D_Searches_leftOnSet 6 rfl) q_368 hc0 (ltK rfl) (ltK rfl) rfl ?_
  refine vg_getI (pc := 9) (ci := 4) (f := 2) (dK D_Searches_leftOnSet 7 rfl) q_301 (hw_6_0 hc0) (ltK rfl) (ltK rfl) rfl ?_
  refine vg_icmp_ge (pc := 12) (t := 75) (dK D_Searches_leftOnSet 8 rfl) rfl ha3 (g_in _ _ _) (fun hc9 => ?_) (fun hc9 => ?_)
  · replace h := ifP h hc9
    refine gL_weak (ls' := [(2, V a2)]) (sbc 2 rfl sbn) ?_
    exact hx _ (Option.some.inj h).symm ha2
  · replace h := ifN h hc9
    refine g_iloadn (pc := 15) (i0 := 1) (j := 1) (dK D_Searches_leftOnSet 9 rfl) rfl rfl ?_
    refine g_iloadn (pc := 16) (i0 := 3) (j := 3) (dK D_Searches_leftOnSet 10 rfl) rfl rfl ?_
    refine vg_ishr (pc := 17) (dK D_Searches_leftOnSet 11 rfl) ?_
    refine vg_iconst (pc := 18) (dK D_Searches_leftOnSet 12 rfl) ?_
    refine vg_iand (pc := 19) (dK D_Searches_leftOnSet 13 rfl) ?_
    refine vg_iconst (pc := 20) (dK D_Searches_leftOnSet 14 rfl) ?_
    refine vg_icmp_ne (pc := 21) (t := 69) (dK D_Searches_leftOnSet 15 rfl) rfl (toInt_in _) (inRk rfl) (fun hc8 => ?_) (fun hc8 => ?_)
    · replace h := ifN h hc8
      refine nmE h (fun v1 e_v1 h => ?_)
      refine vg_iinc (pc := 69) (j := 3) (a := a3) (z := 1) (ls2 := [(3, V v1), (0, .ref c0), (1, V a1), (2, V a2)]) (dK D_Searches_leftOnSet 41 rfl) rfl e_v1 (ltK rfl) rfl ?_
      refine g_goto (pc := 72) (tgt := 4) (dK D_Searches_leftOnSet 42 rfl) rfl ?_
      refine gL_weak (ls' := [(0, .ref c0), (1, V a1), (2, V a2), (3, V v1)]) (sbc 1 rfl (sbc 2 rfl (sbc 3 rfl (sbc 0 rfl sbn)))) ?_
      replace h := ih _ h
      exact h ha2 (Vn_in e_v1)
    · replace h := ifP h hc8
      refine g_aloadn (pc := 24) (i0 := 0) (j := 0) (dK D_Searches_leftOnSet 16 rfl) rfl rfl ?_
      refine vg_getO (pc := 25) (ci := 6) (f := 1) (dK D_Searches_leftOnSet 17 rfl) q_370 hc0 (ltK rfl) (ltK rfl) rfl ?_
      refine vg_getO (pc := 28) (ci := 8) (f := 3) (dK D_Searches_leftOnSet 18 rfl) q_238 (hw_6_1 hc0) (ltK rfl) (ltK rfl) rfl ?_
      refine vg_getA (pc := 31) (ci := 2) (f := 1) (dK D_Searches_leftOnSet 19 rfl) q_208 (hw_8_3 (hw_6_1 hc0)) (ltK rfl) (ltK rfl) rfl ?_
      refine g_iloadn (pc := 34) (i0 := 3) (j := 3) (dK D_Searches_leftOnSet 20 rfl) rfl rfl ?_
      refine gdE h (fun hi2 h => ?_)
      refine vg_iaload (pc := 35) (j := a3.toNat) (dK D_Searches_leftOnSet 21 rfl) (hw_2_1 (hw_8_3 (hw_6_1 hc0))) rfl hi2 rfl ?_
      refine vg_iconst (pc := 36) (dK D_Searches_leftOnSet 22 rfl) ?_
      refine vg_icmp_eq (pc := 37) (t := 56) (dK D_Searches_leftOnSet 23 rfl) rfl (g_in _ _ _) (inRk rfl) (fun hc7 => ?_) (fun hc7 => ?_)
      · replace h := ifP h hc7
        refine vg_iconst (pc := 56) (dK D_Searches_leftOnSet 32 rfl) ?_
        exact vg_iretI (pc := 57) (r := (-1)) (dK D_Searches_leftOnSet 33 rfl) rfl (leK rfl) (leK rfl) (fun _ => rfl) (hr _ (Option.some.inj h).symm (inRk rfl))
      · replace h := ifN h hc7
        refine g_aloadn (pc := 40) (i0 := 0) (j := 0) (dK D_Searches_leftOnSet 24 rfl) rfl rfl ?_
        refine vg_getO (pc := 41) (ci := 6) (f := 1) (dK D_Searches_leftOnSet 25 rfl) q_370 hc0 (ltK rfl) (ltK rfl) rfl ?_
        refine vg_getO (pc := 44) (ci := 8) (f := 3) (dK D_Searches_leftOnSet 26 rfl) q_238 (hw_6_1 hc0) (ltK rfl) (ltK rfl) rfl ?_
        refine vg_getA (pc := 47) (ci := 2) (f := 0) (dK D_Searches_leftOnSet 27 rfl) q_204 (hw_8_3 (hw_6_1 hc0)) (ltK rfl) (ltK rfl) rfl ?_
        refine g_iloadn (pc := 50) (i0 := 3) (j := 3) (dK D_Searches_leftOnSet 28 rfl) rfl rfl ?_
        refine vg_iaload (pc := 51) (j := a3.toNat) (dK D_Searches_leftOnSet 29 rfl) (hw_2_0 (hw_8_3 (hw_6_1 hc0))) rfl hi2 rfl ?_
        refine vg_iconst (pc := 52) (dK D_Searches_leftOnSet 30 rfl) ?_
        refine vg_icmp_ne (pc := 53) (t := 58) (dK D_Searches_leftOnSet 31 rfl) rfl (g_in _ _ _) (inRk rfl) (fun hc6 => ?_) (fun hc6 => ?_)
        · replace h := ifN h hc6
          refine g_iloadn (pc := 58) (i0 := 2) (j := 2) (dK D_Searches_leftOnSet 34 rfl) rfl rfl ?_
          refine g_aloadn (pc := 59) (i0 := 0) (j := 0) (dK D_Searches_leftOnSet 35 rfl) rfl rfl ?_
          refine vg_getO (pc := 60) (ci := 6) (f := 0) (dK D_Searches_leftOnSet 36 rfl) q_368 hc0 (ltK rfl) (ltK rfl) rfl ?_
          refine g_iloadn (pc := 63) (i0 := 3) (j := 3) (dK D_Searches_leftOnSet 37 rfl) rfl rfl ?_
          refine bnE h (fun p3 e_p3 h => ?_)
          refine vg_cV (pc := 64) (As := [V a3]) (rest := [V a2]) (mc' := 0) (ms' := 0) (dK D_Searches_leftOnSet 38 rfl) K_Searches_178 (fitK rfl) (ltK rfl) (hw_6_0 hc0) rfl (leK rfl) (leK rfl) (leK rfl) (tf_Plan_leftOnForm (hw_6_0 hc0) ha3 e_p3) (kcI (fun h_p3 => ?_))
          refine vg_iadd (pc := 67) (dK D_Searches_leftOnSet 39 rfl) ?_
          refine nmE h (fun v4 e_v4 h => ?_)
          refine gtop e_v4 ?_
          refine g_istoren (pc := 68) (i0 := 2) (ls2 := [(2, V v4), (0, .ref c0), (1, V a1), (3, V a3)]) (dK D_Searches_leftOnSet 40 rfl) rfl (ltK rfl) rfl ?_
          refine nmE h (fun v5 e_v5 h => ?_)
          refine vg_iinc (pc := 69) (j := 3) (a := a3) (z := 1) (ls2 := [(3, V v5), (2, V v4), (0, .ref c0), (1, V a1)]) (dK D_Searches_leftOnSet 41 rfl) rfl e_v5 (ltK rfl) rfl ?_
          refine g_goto (pc := 72) (tgt := 4) (dK D_Searches_leftOnSet 42 rfl) rfl ?_
          refine gL_weak (ls' := [(0, .ref c0), (1, V a1), (2, V v4), (3, V v5)]) (sbc 2 rfl (sbc 3 rfl (sbc 1 rfl (sbc 0 rfl sbn)))) ?_
          replace h := ih _ h
          exact h (Vn_in e_v4) (Vn_in e_v5)
        · replace h := ifP h hc6
          refine vg_iconst (pc := 56) (dK D_Searches_leftOnSet 32 rfl) ?_
          exact vg_iretI (pc := 57) (r := (-1)) (dK D_Searches_leftOnSet 33 rfl) rfl (leK rfl) (leK rfl) (fun _ => rfl) (hr _ (Option.some.inj h).symm (inRk rfl))
def fn_Searches_leftOnSet (c0 : Nat) (a1 : Int) (S : St) : Option (Int) := bnS (lo_Searches_leftOnSet_4 c0 a1 S FU (0, 0)) (fun p11 => some p11) fun p10 => some p10
theorem tf_Searches_leftOnSet {E : EV} {X : XT} {c0 : Nat} (hc0 : HC X 6 c0) {a1 : Int} (ha1 : inR a1) {S : St} {q : Int} (h : fn_Searches_leftOnSet c0 a1 S = some q) : Ev E M_Searches_leftOnSet [.ref c0, V a1] (WX X S) 0 0 (KI X q S) := by
  refine Ev.of pn_Searches rfl (leK rfl) ?_
  show Go E M_Searches_leftOnSet 0 0 0 [(0, .ref c0), (1, V a1)] [] (WX X S) 0 0 (KI X q S)
  unfold fn_Searches_leftOnSet at h
  refine vg_iconst (pc := 0) (dK D_Searches_leftOnSet 0 rfl) ?_
  refine g_istoren (pc := 1) (i0 := 2) (ls2 := [(2, V 0), (0, .ref c0), (1, V a1)]) (dK D_Searches_leftOnSet 1 rfl) rfl (ltK rfl) rfl ?_
  refine vg_iconst (pc := 2) (dK D_Searches_leftOnSet 2 rfl) ?_
  refine g_istoren (pc := 3) (i0 := 3) (ls2 := [(3, V 0), (2, V 0), (0, .ref c0), (1, V a1)]) (dK D_Searches_leftOnSet 3 rfl) rfl (ltK rfl) rfl ?_
  refine bnSE h (fun p11 e_p11 h => ?_) (fun p10 e_p10 h => ?_)
  · refine gL_weak (ls' := [(0, .ref c0), (1, V a1), (2, V 0), (3, V 0)]) (sbc 2 rfl (sbc 3 rfl (sbc 1 rfl (sbc 0 rfl sbn)))) ?_
    refine tl_Searches_leftOnSet_4 hc0 ha1 (fun _ e => slr e) (fun p e hr_p11 => ?_) FU (0, 0) e_p11 (inRk rfl) (inRk rfl)
    have e := Sum.inl.inj e
    subst e
    exact (by obtain rfl := Option.some.inj h; exact ⟨rfl, hr_p11, rfl⟩)
  · refine gL_weak (ls' := [(0, .ref c0), (1, V a1), (2, V 0), (3, V 0)]) (sbc 2 rfl (sbc 3 rfl (sbc 1 rfl (sbc 0 rfl sbn)))) ?_
    refine tl_Searches_leftOnSet_4 hc0 ha1 (fun p e hx2_p10 => ?_) (fun _ e => srl e) FU (0, 0) e_p10 (inRk rfl) (inRk rfl)
    have e := Sum.inr.inj e
    subst e
    refine g_iloadn (pc := 75) (i0 := 2) (j := 0) (dK D_Searches_leftOnSet 43 rfl) rfl rfl ?_
    exact vg_iretI (pc := 76) (r := p10) (dK D_Searches_leftOnSet 44 rfl) rfl (leK rfl) (leK rfl) (fun _ => rfl) (by obtain rfl := Option.some.inj h; exact ⟨rfl, hx2_p10, rfl⟩)
def lb_Searches_roomiestForms_7 (c0 : Nat) (a1 : Int) (S : St) (go : Int × Int × Int → Option (Int)) (a2 : Int) (a3 : Int) (a4 : Int) : Option (Int) := if (i_shl 1 (g S (tgt c0 0) 2)) ≤ a4 then (some a2) else (bnO (fn_Integer_bitCount a4 S) fun p1 => if p1 = a1 then (bnO (fn_Searches_leftOnSet c0 a4 S) fun p3 => if p3 ≤ a3 then (nm (wr (a4 + 1)) fun v4 => go (a2, a3, v4)) else (nm (wr (a4 + 1)) fun v5 => go (a4, p3, v5))) else (nm (wr (a4 + 1)) fun v2 => go (a2, a3, v2)))
def lo_Searches_roomiestForms_7 (c0 : Nat) (a1 : Int) (S : St) : Nat → Int × Int × Int → Option (Int) := lp fun go p => lb_Searches_roomiestForms_7 c0 a1 S go p.1 p.2.1 p.2.2
theorem tl_Searches_roomiestForms_7 {E : EV} {X : XT} {c0 : Nat} (hc0 : HC X 6 c0) {a1 : Int} (ha1 : inR a1) {S : St} {K : RK → PS → Prop} {q : Int} (hx : inR q → Go E M_Searches_roomiestForms 0 0 56 [(2, V q)] [] (WX X S) 0 0 K) : ∀ n a, lo_Searches_roomiestForms_7 c0 a1 S n a = some q → inR a.1 → inR a.2.1 → inR a.2.2 → Go E M_Searches_roomiestForms 0 0 7 [(0, .ref c0), (1, V a1), (2, V a.1), (3, V a.2.1), (4, V a.2.2)] [] (WX X S) 0 0 K := by
  refine lp_ind (P := fun a : Int × Int × Int => inR a.1 → inR a.2.1 → inR a.2.2 → Go E M_Searches_roomiestForms 0 0 7 [(0, .ref c0), (1, V a1), (2, V a.1), (3, V a.2.1), (4, V a.2.2)] [] (WX X S) 0 0 K) (fun go ih a h => ?_)
  obtain ⟨a2, a3, a4⟩ := a
  intro ha2 ha3 ha4
  show Go E M_Searches_roomiestForms 0 0 7 [(0, .ref c0), (1, V a1), (2, V a2), (3, V a3), (4, V a4)] [] (WX X S) 0 0 K
  replace h : lb_Searches_roomiestForms_7 c0 a1 S go a2 a3 a4 = some q := h
  unfold lb_Searches_roomiestForms_7 at h
  refine g_iload (pc := 7) (j := 4) (dK D_Searches_roomiestForms 6 rfl) rfl ?_
  refine vg_iconst (pc := 9) (dK D_Searches_roomiestForms 7 rfl) ?_
  refine g_aloadn (pc := 10) (i0 := 0) (j := 0) (dK D_Searches_roomiestForms 8 rfl) rfl rfl ?_
  refine vg_getO (pc := 11) (ci := 6) (f := 0) (dK D_Searches_roomiestForms 9 rfl) q_368 hc0 (ltK rfl) (ltK rfl) rfl ?_
  refine vg_getI (pc := 14) (ci := 4) (f := 2) (dK D_Searches_roomiestForms 10 rfl) q_301 (hw_6_0 hc0) (ltK rfl) (ltK rfl) rfl ?_
  refine vg_ishl (pc := 17) (dK D_Searches_roomiestForms 11 rfl) ?_
  refine vg_icmp_ge (pc := 18) (t := 56) (dK D_Searches_roomiestForms 12 rfl) rfl ha4 (toInt_in _) (fun hc8 => ?_) (fun hc8 => ?_)
  · replace h := ifP h hc8
    obtain rfl := Option.some.inj h
    refine gL_weak (ls' := [(2, V a2)]) (sbc 2 rfl sbn) ?_
    exact hx ha2
  · replace h := ifN h hc8
    refine g_iload (pc := 21) (j := 4) (dK D_Searches_roomiestForms 13 rfl) rfl ?_
    refine bnE h (fun p1 e_p1 h => ?_)
    refine vg_cS (pc := 23) (As := [V a4]) (rest := []) (mc' := 0) (ms' := 0) (dK D_Searches_roomiestForms 14 rfl) K_Searches_159 (fitK rfl) rfl (leK rfl) (leK rfl) (leK rfl) (tf_Integer_bitCount ha4 e_p1) (kcI (fun h_p1 => ?_))
    refine g_iloadn (pc := 26) (i0 := 1) (j := 1) (dK D_Searches_roomiestForms 15 rfl) rfl rfl ?_
    refine vg_icmp_ne (pc := 27) (t := 50) (dK D_Searches_roomiestForms 16 rfl) rfl h_p1 ha1 (fun hc7 => ?_) (fun hc7 => ?_)
    · replace h := ifN h hc7
      refine nmE h (fun v2 e_v2 h => ?_)
      refine vg_iinc (pc := 50) (j := 4) (a := a4) (z := 1) (ls2 := [(4, V v2), (0, .ref c0), (1, V a1), (2, V a2), (3, V a3)]) (dK D_Searches_roomiestForms 28 rfl) rfl e_v2 (ltK rfl) rfl ?_
      refine g_goto (pc := 53) (tgt := 7) (dK D_Searches_roomiestForms 29 rfl) rfl ?_
      refine gL_weak (ls' := [(0, .ref c0), (1, V a1), (2, V a2), (3, V a3), (4, V v2)]) (sbc 1 rfl (sbc 2 rfl (sbc 3 rfl (sbc 4 rfl (sbc 0 rfl sbn))))) ?_
      replace h := ih _ h
      exact h ha2 ha3 (Vn_in e_v2)
    · replace h := ifP h hc7
      refine g_aloadn (pc := 30) (i0 := 0) (j := 0) (dK D_Searches_roomiestForms 17 rfl) rfl rfl ?_
      refine g_iload (pc := 31) (j := 4) (dK D_Searches_roomiestForms 18 rfl) rfl ?_
      refine bnE h (fun p3 e_p3 h => ?_)
      refine vg_cV (pc := 33) (As := [V a4]) (rest := []) (mc' := 0) (ms' := 0) (dK D_Searches_roomiestForms 19 rfl) K_Searches_164 (fitK rfl) (ltK rfl) hc0 rfl (leK rfl) (leK rfl) (leK rfl) (tf_Searches_leftOnSet hc0 ha4 e_p3) (kcI (fun h_p3 => ?_))
      refine g_istore (pc := 36) (ls2 := [(5, V p3), (0, .ref c0), (1, V a1), (2, V a2), (3, V a3), (4, V a4)]) (dK D_Searches_roomiestForms 20 rfl) (ltK rfl) rfl ?_
      refine g_iload (pc := 38) (j := 0) (dK D_Searches_roomiestForms 21 rfl) rfl ?_
      refine g_iloadn (pc := 40) (i0 := 3) (j := 4) (dK D_Searches_roomiestForms 22 rfl) rfl rfl ?_
      refine vg_icmp_le (pc := 41) (t := 50) (dK D_Searches_roomiestForms 23 rfl) rfl h_p3 ha3 (fun hc6 => ?_) (fun hc6 => ?_)
      · replace h := ifP h hc6
        refine nmE h (fun v4 e_v4 h => ?_)
        refine vg_iinc (pc := 50) (j := 5) (a := a4) (z := 1) (ls2 := [(4, V v4), (5, V p3), (0, .ref c0), (1, V a1), (2, V a2), (3, V a3)]) (dK D_Searches_roomiestForms 28 rfl) rfl e_v4 (ltK rfl) rfl ?_
        refine g_goto (pc := 53) (tgt := 7) (dK D_Searches_roomiestForms 29 rfl) rfl ?_
        refine gL_weak (ls' := [(0, .ref c0), (1, V a1), (2, V a2), (3, V a3), (4, V v4)]) (sbc 2 rfl (sbc 3 rfl (sbc 4 rfl (sbc 5 rfl (sbc 0 rfl sbn))))) ?_
        replace h := ih _ h
        exact h ha2 ha3 (Vn_in e_v4)
      · replace h := ifN h hc6
        refine g_iload (pc := 44) (j := 5) (dK D_Searches_roomiestForms 24 rfl) rfl ?_
        refine g_istoren (pc := 46) (i0 := 2) (ls2 := [(2, V a4), (5, V p3), (0, .ref c0), (1, V a1), (3, V a3), (4, V a4)]) (dK D_Searches_roomiestForms 25 rfl) rfl (ltK rfl) rfl ?_
        refine g_iload (pc := 47) (j := 1) (dK D_Searches_roomiestForms 26 rfl) rfl ?_
        refine g_istoren (pc := 49) (i0 := 3) (ls2 := [(3, V p3), (2, V a4), (5, V p3), (0, .ref c0), (1, V a1), (4, V a4)]) (dK D_Searches_roomiestForms 27 rfl) rfl (ltK rfl) rfl ?_
        refine nmE h (fun v5 e_v5 h => ?_)
        refine vg_iinc (pc := 50) (j := 5) (a := a4) (z := 1) (ls2 := [(4, V v5), (3, V p3), (2, V a4), (5, V p3), (0, .ref c0), (1, V a1)]) (dK D_Searches_roomiestForms 28 rfl) rfl e_v5 (ltK rfl) rfl ?_
        refine g_goto (pc := 53) (tgt := 7) (dK D_Searches_roomiestForms 29 rfl) rfl ?_
        refine gL_weak (ls' := [(0, .ref c0), (1, V a1), (2, V a4), (3, V p3), (4, V v5)]) (sbc 4 rfl (sbc 5 rfl (sbc 2 rfl (sbc 1 rfl (sbc 0 rfl sbn))))) ?_
        replace h := ih _ h
        exact h ha4 h_p3 (Vn_in e_v5)
def fn_Searches_roomiestForms (c0 : Nat) (a1 : Int) (S : St) : Option (Int) := bnO (lo_Searches_roomiestForms_7 c0 a1 S FU (0, (-1), 1)) fun p9 => some p9
theorem tf_Searches_roomiestForms {E : EV} {X : XT} {c0 : Nat} (hc0 : HC X 6 c0) {a1 : Int} (ha1 : inR a1) {S : St} {q : Int} (h : fn_Searches_roomiestForms c0 a1 S = some q) : Ev E M_Searches_roomiestForms [.ref c0, V a1] (WX X S) 0 0 (KI X q S) := by
  refine Ev.of pn_Searches rfl (leK rfl) ?_
  show Go E M_Searches_roomiestForms 0 0 0 [(0, .ref c0), (1, V a1)] [] (WX X S) 0 0 (KI X q S)
  unfold fn_Searches_roomiestForms at h
  refine vg_iconst (pc := 0) (dK D_Searches_roomiestForms 0 rfl) ?_
  refine g_istoren (pc := 1) (i0 := 2) (ls2 := [(2, V 0), (0, .ref c0), (1, V a1)]) (dK D_Searches_roomiestForms 1 rfl) rfl (ltK rfl) rfl ?_
  refine vg_iconst (pc := 2) (dK D_Searches_roomiestForms 2 rfl) ?_
  refine g_istoren (pc := 3) (i0 := 3) (ls2 := [(3, V (-1)), (2, V 0), (0, .ref c0), (1, V a1)]) (dK D_Searches_roomiestForms 3 rfl) rfl (ltK rfl) rfl ?_
  refine vg_iconst (pc := 4) (dK D_Searches_roomiestForms 4 rfl) ?_
  refine g_istore (pc := 5) (ls2 := [(4, V 1), (3, V (-1)), (2, V 0), (0, .ref c0), (1, V a1)]) (dK D_Searches_roomiestForms 5 rfl) (ltK rfl) rfl ?_
  refine bnE h (fun p9 e_p9 h => ?_)
  refine gL_weak (ls' := [(0, .ref c0), (1, V a1), (2, V 0), (3, V (-1)), (4, V 1)]) (sbc 3 rfl (sbc 4 rfl (sbc 2 rfl (sbc 1 rfl (sbc 0 rfl sbn))))) ?_
  refine tl_Searches_roomiestForms_7 hc0 ha1 (fun hx2_p9 => ?_) FU (0, (-1), 1) e_p9 (inRk rfl) (inRk rfl) (inRk rfl)
  refine g_iloadn (pc := 56) (i0 := 2) (j := 0) (dK D_Searches_roomiestForms 30 rfl) rfl rfl ?_
  exact vg_iretI (pc := 57) (r := p9) (dK D_Searches_roomiestForms 31 rfl) rfl (leK rfl) (leK rfl) (fun _ => rfl) (by obtain rfl := Option.some.inj h; exact ⟨rfl, hx2_p9, rfl⟩)
def fn_FP_bestColor (c0 : Nat) (a1 : Int) (S : St) : Option (Nat × Int) := if a1 < 1 then (some (2, 0)) else (if a1 ≤ 8 then (bnO (fn_Searches_roomiestForms (tgt c0 2) a1 S) fun p1 => some (0, p1)) else (some (2, 0)))
theorem tf_FP_bestColor {E : EV} {X : XT} (hfl : X.2.2.2 = false) {c0 : Nat} (hc0 : HC X 10 c0) {a1 : Int} (ha1 : inR a1) {S : St} {q : Nat × Int} (h : fn_FP_bestColor c0 a1 S = some q) : Ev E M_FP_bestColor [.ref c0, V a1] (WX X S) 1 6 (KT X q.1 S (KI X q.2 S)) := by
  refine Ev.of pn_FP rfl (leK rfl) ?_
  show Go E M_FP_bestColor 1 6 0 [(0, .ref c0), (1, V a1)] [] (WX X S) 0 0 (KT X q.1 S (KI X q.2 S))
  unfold fn_FP_bestColor at h
  refine g_iloadn (pc := 0) (i0 := 1) (j := 1) (dK D_FP_bestColor 0 rfl) rfl rfl ?_
  refine vg_iconst (pc := 1) (dK D_FP_bestColor 1 rfl) ?_
  refine vg_icmp_lt (pc := 2) (t := 11) (dK D_FP_bestColor 2 rfl) rfl ha1 (inRk rfl) (fun hc3 => ?_) (fun hc3 => ?_)
  · replace h := ifP h hc3
    exact vg_throwW hfl (pc := 11) TH_FP_148_304 (dK D_FP_bestColor 6 rfl) (dK D_FP_bestColor 7 rfl) (dK D_FP_bestColor 8 rfl) (dK D_FP_bestColor 9 rfl) (dK D_FP_bestColor 10 rfl) rfl (leK rfl) (leK rfl) (leK rfl) (leK rfl) (leK rfl) (by obtain rfl := Option.some.inj h; exact KT_thr (e := 2) (by decide))
  · replace h := ifN h hc3
    refine g_iloadn (pc := 5) (i0 := 1) (j := 1) (dK D_FP_bestColor 3 rfl) rfl rfl ?_
    refine vg_bipush (pc := 6) (dK D_FP_bestColor 4 rfl) rfl ?_
    refine vg_icmp_le (pc := 8) (t := 22) (dK D_FP_bestColor 5 rfl) rfl ha1 (inRk rfl) (fun hc2 => ?_) (fun hc2 => ?_)
    · replace h := ifP h hc2
      refine g_aloadn (pc := 22) (i0 := 0) (j := 0) (dK D_FP_bestColor 11 rfl) rfl rfl ?_
      refine vg_getO (pc := 23) (ci := 10) (f := 2) (dK D_FP_bestColor 12 rfl) q_424 hc0 (ltK rfl) (ltK rfl) rfl ?_
      refine g_iloadn (pc := 26) (i0 := 1) (j := 1) (dK D_FP_bestColor 13 rfl) rfl rfl ?_
      refine bnE h (fun p1 e_p1 h => ?_)
      refine vg_cV (pc := 27) (As := [V a1]) (rest := []) (mc' := 0) (ms' := 0) (dK D_FP_bestColor 14 rfl) K_FP_306 (fitK rfl) (ltK rfl) (hw_10_2 hc0) rfl (leK rfl) (leK rfl) (leK rfl) (tf_Searches_roomiestForms (hw_10_2 hc0) ha1 e_p1) (kcI (fun h_p1 => ?_))
      exact vg_iretI (pc := 30) (r := p1) (dK D_FP_bestColor 15 rfl) rfl (leK rfl) (leK rfl) (xf hfl) (by obtain rfl := Option.some.inj h; exact KT_ok ⟨rfl, h_p1, rfl⟩)
    · replace h := ifN h hc2
      exact vg_throwW hfl (pc := 11) TH_FP_148_304 (dK D_FP_bestColor 6 rfl) (dK D_FP_bestColor 7 rfl) (dK D_FP_bestColor 8 rfl) (dK D_FP_bestColor 9 rfl) (dK D_FP_bestColor 10 rfl) rfl (leK rfl) (leK rfl) (leK rfl) (leK rfl) (leK rfl) (by obtain rfl := Option.some.inj h; exact KT_thr (e := 2) (by decide))
def fn_Law_bestColor (c0 : Nat) (a1 : Int) (c2 : Nat) (S : St) : Option (Int × St) := bnO (fn_FP_bestColor c0 a1 S) fun p1 => if p1.1 = 0 then (nm (ul S c2 0 p1.2) fun S2 => some (0, S2)) else (if p1.1 = 2 then (some (1, S)) else none)
theorem tf_Law_bestColor {E : EV} {X : XT} (hfl : X.2.2.2 = false) {c0 : Nat} (hc0 : HC X 10 c0) {a1 : Int} (ha1 : inR a1) {c2 : Nat} (hc2 : HA X 3 1 c2) {S : St} {q : Int × St} (h : fn_Law_bestColor c0 a1 c2 S = some q) : EvH E M_Law_bestColor [.ref c0, V a1, .ref c2] (WX X S) 1 6 (KI X q.1 q.2) := by
  refine EvH.of pn_Law (leK rfl) ?_
  show Go E M_Law_bestColor 1 6 0 [(0, .ref c0), (1, V a1), (2, .ref c2)] [] (WX X S) 0 0 (KI X q.1 q.2)
  unfold fn_Law_bestColor at h
  refine g_aloadn (pc := 0) (i0 := 2) (j := 2) (dK D_Law_bestColor 0 rfl) rfl rfl ?_
  refine vg_iconst (pc := 1) (dK D_Law_bestColor 1 rfl) ?_
  refine g_aloadn (pc := 2) (i0 := 0) (j := 0) (dK D_Law_bestColor 2 rfl) rfl rfl ?_
  refine g_iloadn (pc := 3) (i0 := 1) (j := 1) (dK D_Law_bestColor 3 rfl) rfl rfl ?_
  refine bnE h (fun p1 e_p1 h => ?_)
  refine vg_cVX hfl (pc := 4) (As := [V a1]) (rest := [V 0, .ref c2]) (mc' := 1) (ms' := 6) (dK D_Law_bestColor 4 rfl) K_Law_100 (fitK rfl) (ltK rfl) hc0 rfl (leK rfl) (leK rfl) (leK rfl) (tf_FP_bestColor hfl hc0 ha1 e_p1) (kxT hfl (fun he3 => kxI hfl (fun h_p1 => ?_)) (fun he3 => ?_))
  · replace h := ifP h he3
    refine vg_i2l (pc := 7) (dK D_Law_bestColor 5 rfl) h_p1 ?_
    refine nmE h (fun S2 e_S2 h => ?_)
    refine vg_lastore (pc := 8) (z := p1.2) (dK D_Law_bestColor 6 rfl) hc2 rfl ⟨by decide, by decide⟩ rfl e_S2 ?_
    refine g_goto (pc := 9) (tgt := 15) (dK D_Law_bestColor 7 rfl) rfl ?_
    refine vg_iconst (pc := 15) (dK D_Law_bestColor 11 rfl) ?_
    exact vg_iretI (pc := 16) (r := 0) (dK D_Law_bestColor 12 rfl) rfl (leK rfl) (leK rfl) (xf hfl) (by obtain rfl := Option.some.inj h; exact ⟨rfl, (inRk rfl), rfl⟩)
  · replace h := ifN h he3
    by_cases hq4 : p1.1 = 2
    · have h := ifP h hq4
      rw [hq4]
      exact ⟨_, CT_Law_bestColor_4_2, (by obtain rfl := Option.some.inj h; exact ⟨rfl, (inRk rfl), rfl⟩)⟩
    · replace h := ifN h hq4
      exact nomatch h
def fn_FP_needGroup (a0 : Int) (S : St) : Option (Nat) := if a0 < 0 then (some 2) else (if a0 < 10 then (some 0) else (some 2))
theorem tf_FP_needGroup {E : EV} {X : XT} (hfl : X.2.2.2 = false) {a0 : Int} (ha0 : inR a0) {S : St} {q : Nat} (h : fn_FP_needGroup a0 S = some q) : Ev E M_FP_needGroup [V a0] (WX X S) 1 6 (KT X q S (KU X S)) := by
  refine Ev.of pn_FP rfl (leK rfl) ?_
  show Go E M_FP_needGroup 1 6 0 [(0, V a0)] [] (WX X S) 0 0 (KT X q S (KU X S))
  unfold fn_FP_needGroup at h
  refine g_iloadn (pc := 0) (i0 := 0) (j := 0) (dK D_FP_needGroup 0 rfl) rfl rfl ?_
  refine vg_if_lt (pc := 1) (t := 10) (dK D_FP_needGroup 1 rfl) rfl ha0 (fun hc2 => ?_) (fun hc2 => ?_)
  · replace h := ifP h hc2
    exact vg_throwW hfl (pc := 10) TH_FP_148_379 (dK D_FP_needGroup 5 rfl) (dK D_FP_needGroup 6 rfl) (dK D_FP_needGroup 7 rfl) (dK D_FP_needGroup 8 rfl) (dK D_FP_needGroup 9 rfl) rfl (leK rfl) (leK rfl) (leK rfl) (leK rfl) (leK rfl) (by obtain rfl := Option.some.inj h; exact KT_thr (e := 2) (by decide))
  · replace h := ifN h hc2
    refine g_iloadn (pc := 4) (i0 := 0) (j := 0) (dK D_FP_needGroup 2 rfl) rfl rfl ?_
    refine vg_bipush (pc := 5) (dK D_FP_needGroup 3 rfl) rfl ?_
    refine vg_icmp_lt (pc := 7) (t := 21) (dK D_FP_needGroup 4 rfl) rfl ha0 (inRk rfl) (fun hc1 => ?_) (fun hc1 => ?_)
    · replace h := ifP h hc1
      exact g_return (pc := 21) (dK D_FP_needGroup 10 rfl) rfl (leK rfl) (leK rfl) (xf hfl) (by obtain rfl := Option.some.inj h; exact KT_ok ⟨rfl, rfl⟩)
    · replace h := ifN h hc1
      exact vg_throwW hfl (pc := 10) TH_FP_148_379 (dK D_FP_needGroup 5 rfl) (dK D_FP_needGroup 6 rfl) (dK D_FP_needGroup 7 rfl) (dK D_FP_needGroup 8 rfl) (dK D_FP_needGroup 9 rfl) rfl (leK rfl) (leK rfl) (leK rfl) (leK rfl) (leK rfl) (by obtain rfl := Option.some.inj h; exact KT_thr (e := 2) (by decide))
def fn_FP_groupOn (c0 : Nat) (a1 : Int) (a2 : Int) (S : St) : Option (Nat × Int) := bnO (fn_FP_needGroup a1 S) fun p1 => if p1 = 0 then (if a2 < 0 then (some (2, 0)) else (nm (wr ((g S (tgt c0 3) 1).tdiv 2)) fun v2 => if a2 ≤ v2 then (if 0 ≤ ((a1 * 33) + a2) ∧ ((a1 * 33) + a2) < 330 then (some (0, (g S (tgt (tgt c0 3) 7) ((((a1 * 33) + a2)).toNat)))) else none) else (some (2, 0)))) else (some (p1, 0))
theorem tf_FP_groupOn {E : EV} {X : XT} (hfl : X.2.2.2 = false) {c0 : Nat} (hc0 : HC X 10 c0) {a1 : Int} (ha1 : inR a1) {a2 : Int} (ha2 : inR a2) {S : St} {q : Nat × Int} (h : fn_FP_groupOn c0 a1 a2 S = some q) : Ev E M_FP_groupOn [.ref c0, V a1, V a2] (WX X S) 2 12 (KT X q.1 S (KI X q.2 S)) := by
  refine Ev.of pn_FP rfl (leK rfl) ?_
  show Go E M_FP_groupOn 2 12 0 [(0, .ref c0), (1, V a1), (2, V a2)] [] (WX X S) 0 0 (KT X q.1 S (KI X q.2 S))
  unfold fn_FP_groupOn at h
  refine g_iloadn (pc := 0) (i0 := 1) (j := 1) (dK D_FP_groupOn 0 rfl) rfl rfl ?_
  refine bnE h (fun p1 e_p1 h => ?_)
  refine vg_cS (pc := 1) (As := [V a1]) (rest := []) (mc' := 1) (ms' := 6) (dK D_FP_groupOn 1 rfl) K_FP_329 (fitK rfl) rfl (leK rfl) (leK rfl) (leK rfl) (tf_FP_needGroup hfl ha1 e_p1) (kcT hfl (fun he6 => kcU ?_) (fun he6 => ⟨rfl, ?_⟩))
  · replace h := ifP h he6
    refine g_iloadn (pc := 4) (i0 := 2) (j := 2) (dK D_FP_groupOn 2 rfl) rfl rfl ?_
    refine vg_if_lt (pc := 5) (t := 21) (dK D_FP_groupOn 3 rfl) rfl ha2 (fun hc5 => ?_) (fun hc5 => ?_)
    · replace h := ifP h hc5
      exact vg_throwW hfl (pc := 21) TH_FP_148_332 (dK D_FP_groupOn 11 rfl) (dK D_FP_groupOn 12 rfl) (dK D_FP_groupOn 13 rfl) (dK D_FP_groupOn 14 rfl) (dK D_FP_groupOn 15 rfl) rfl (leK rfl) (leK rfl) (leK rfl) (leK rfl) (leK rfl) (by obtain rfl := Option.some.inj h; exact KT_thr (e := 2) (by decide))
    · replace h := ifN h hc5
      refine g_iloadn (pc := 8) (i0 := 2) (j := 2) (dK D_FP_groupOn 4 rfl) rfl rfl ?_
      refine g_aloadn (pc := 9) (i0 := 0) (j := 0) (dK D_FP_groupOn 5 rfl) rfl rfl ?_
      refine vg_getO (pc := 10) (ci := 10) (f := 3) (dK D_FP_groupOn 6 rfl) q_425 hc0 (ltK rfl) (ltK rfl) rfl ?_
      refine vg_getI (pc := 13) (ci := 4) (f := 1) (dK D_FP_groupOn 7 rfl) q_296 (hw_10_3 hc0) (ltK rfl) (ltK rfl) rfl ?_
      refine vg_iconst (pc := 16) (dK D_FP_groupOn 8 rfl) ?_
      refine vg_idiv (pc := 17) (dK D_FP_groupOn 9 rfl) (g_in _ _ _) (inRk rfl) (by decide) ?_
      refine nmE h (fun v2 e_v2 h => ?_)
      refine gtop e_v2 ?_
      refine vg_icmp_le (pc := 18) (t := 32) (dK D_FP_groupOn 10 rfl) rfl ha2 (Vn_in e_v2) (fun hc4 => ?_) (fun hc4 => ?_)
      · replace h := ifP h hc4
        refine g_aloadn (pc := 32) (i0 := 0) (j := 0) (dK D_FP_groupOn 16 rfl) rfl rfl ?_
        refine vg_getO (pc := 33) (ci := 10) (f := 3) (dK D_FP_groupOn 17 rfl) q_425 hc0 (ltK rfl) (ltK rfl) rfl ?_
        refine vg_getA (pc := 36) (ci := 4) (f := 7) (dK D_FP_groupOn 18 rfl) q_313 (hw_10_3 hc0) (ltK rfl) (ltK rfl) rfl ?_
        refine g_iloadn (pc := 39) (i0 := 1) (j := 1) (dK D_FP_groupOn 19 rfl) rfl rfl ?_
        refine vg_bipush (pc := 40) (dK D_FP_groupOn 20 rfl) rfl ?_
        refine vg_imul (pc := 42) (dK D_FP_groupOn 21 rfl) ?_
        refine g_iloadn (pc := 43) (i0 := 2) (j := 2) (dK D_FP_groupOn 22 rfl) rfl rfl ?_
        refine vg_iadd (pc := 44) (dK D_FP_groupOn 23 rfl) ?_
        refine gdE h (fun hi3 h => ?_)
        refine vg_iaload (pc := 45) (j := (((a1 * 33) + a2)).toNat) (dK D_FP_groupOn 24 rfl) (hw_4_7 (hw_10_3 hc0)) rfl hi3 rfl ?_
        exact vg_iretI (pc := 46) (r := (g S (tgt (tgt c0 3) 7) ((((a1 * 33) + a2)).toNat))) (dK D_FP_groupOn 25 rfl) rfl (leK rfl) (leK rfl) (xf hfl) (by obtain rfl := Option.some.inj h; exact KT_ok ⟨rfl, (g_in _ _ _), rfl⟩)
      · replace h := ifN h hc4
        exact vg_throwW hfl (pc := 21) TH_FP_148_332 (dK D_FP_groupOn 11 rfl) (dK D_FP_groupOn 12 rfl) (dK D_FP_groupOn 13 rfl) (dK D_FP_groupOn 14 rfl) (dK D_FP_groupOn 15 rfl) rfl (leK rfl) (leK rfl) (leK rfl) (leK rfl) (leK rfl) (by obtain rfl := Option.some.inj h; exact KT_thr (e := 2) (by decide))
  · replace h := ifN h he6
    obtain rfl := Option.some.inj h
    exact KT_thr he6
def fn_Law_groupOn (c0 : Nat) (a1 : Int) (a2 : Int) (c3 : Nat) (S : St) : Option (Int × St) := bnO (fn_FP_groupOn c0 a1 a2 S) fun p1 => if p1.1 = 0 then (nm (ul S c3 0 p1.2) fun S2 => some (0, S2)) else (if p1.1 = 2 then (some (1, S)) else none)
theorem tf_Law_groupOn {E : EV} {X : XT} (hfl : X.2.2.2 = false) {c0 : Nat} (hc0 : HC X 10 c0) {a1 : Int} (ha1 : inR a1) {a2 : Int} (ha2 : inR a2) {c3 : Nat} (hc3 : HA X 3 1 c3) {S : St} {q : Int × St} (h : fn_Law_groupOn c0 a1 a2 c3 S = some q) : EvH E M_Law_groupOn [.ref c0, V a1, V a2, .ref c3] (WX X S) 2 12 (KI X q.1 q.2) := by
  refine EvH.of pn_Law (leK rfl) ?_
  show Go E M_Law_groupOn 2 12 0 [(0, .ref c0), (1, V a1), (2, V a2), (3, .ref c3)] [] (WX X S) 0 0 (KI X q.1 q.2)
  unfold fn_Law_groupOn at h
  refine g_aloadn (pc := 0) (i0 := 3) (j := 3) (dK D_Law_groupOn 0 rfl) rfl rfl ?_
  refine vg_iconst (pc := 1) (dK D_Law_groupOn 1 rfl) ?_
  refine g_aloadn (pc := 2) (i0 := 0) (j := 0) (dK D_Law_groupOn 2 rfl) rfl rfl ?_
  refine g_iloadn (pc := 3) (i0 := 1) (j := 1) (dK D_Law_groupOn 3 rfl) rfl rfl ?_
  refine g_iloadn (pc := 4) (i0 := 2) (j := 2) (dK D_Law_groupOn 4 rfl) rfl rfl ?_
  refine bnE h (fun p1 e_p1 h => ?_)
  refine vg_cVX hfl (pc := 5) (As := [V a1, V a2]) (rest := [V 0, .ref c3]) (mc' := 2) (ms' := 12) (dK D_Law_groupOn 5 rfl) K_Law_103 (fitK rfl) (ltK rfl) hc0 rfl (leK rfl) (leK rfl) (leK rfl) (tf_FP_groupOn hfl hc0 ha1 ha2 e_p1) (kxT hfl (fun he3 => kxI hfl (fun h_p1 => ?_)) (fun he3 => ?_))
  · replace h := ifP h he3
    refine vg_i2l (pc := 8) (dK D_Law_groupOn 6 rfl) h_p1 ?_
    refine nmE h (fun S2 e_S2 h => ?_)
    refine vg_lastore (pc := 9) (z := p1.2) (dK D_Law_groupOn 7 rfl) hc3 rfl ⟨by decide, by decide⟩ rfl e_S2 ?_
    refine g_goto (pc := 10) (tgt := 17) (dK D_Law_groupOn 8 rfl) rfl ?_
    refine vg_iconst (pc := 17) (dK D_Law_groupOn 12 rfl) ?_
    exact vg_iretI (pc := 18) (r := 0) (dK D_Law_groupOn 13 rfl) rfl (leK rfl) (leK rfl) (xf hfl) (by obtain rfl := Option.some.inj h; exact ⟨rfl, (inRk rfl), rfl⟩)
  · replace h := ifN h he3
    by_cases hq4 : p1.1 = 2
    · have h := ifP h hq4
      rw [hq4]
      exact ⟨_, CT_Law_groupOn_5_2, (by obtain rfl := Option.some.inj h; exact ⟨rfl, (inRk rfl), rfl⟩)⟩
    · replace h := ifN h hq4
      exact nomatch h
def lb_FP_spreadsOf_8 (c0 : Nat) (a1 : Int) (S : St) (go : Int × Int → Option (Int)) (a2 : Int) (a3 : Int) : Option (Int) := nm (wr ((g S (tgt c0 3) 1).tdiv 2)) fun v2 => if v2 < a3 then (some a2) else (if 0 ≤ ((a1 * 33) + a3) ∧ ((a1 * 33) + a3) < 330 then (if (g S (tgt (tgt c0 3) 7) ((((a1 * 33) + a3)).toNat)) ≤ 0 then (nm (wr (a3 + 1)) fun v4 => go (a2, v4)) else (nm (wr (a2 + 1)) fun v5 => nm (wr (a3 + 1)) fun v6 => go (v5, v6))) else none)
def lo_FP_spreadsOf_8 (c0 : Nat) (a1 : Int) (S : St) : Nat → Int × Int → Option (Int) := lp fun go p => lb_FP_spreadsOf_8 c0 a1 S go p.1 p.2
theorem tl_FP_spreadsOf_8 {E : EV} {X : XT} (hfl : X.2.2.2 = false) {c0 : Nat} (hc0 : HC X 10 c0) {a1 : Int} (ha1 : inR a1) {S : St} {K : RK → PS → Prop} {q : Int} (hx : inR q → Go E M_FP_spreadsOf 1 6 47 [(2, V q)] [] (WX X S) 1 6 K) : ∀ n a, lo_FP_spreadsOf_8 c0 a1 S n a = some q → inR a.1 → inR a.2 → Go E M_FP_spreadsOf 1 6 8 [(0, .ref c0), (1, V a1), (2, V a.1), (3, V a.2)] [] (WX X S) 1 6 K := by
  refine lp_ind (P := fun a : Int × Int => inR a.1 → inR a.2 → Go E M_FP_spreadsOf 1 6 8 [(0, .ref c0), (1, V a1), (2, V a.1), (3, V a.2)] [] (WX X S) 1 6 K) (fun go ih a h => ?_)
  obtain ⟨a2, a3⟩ := a
  intro ha2 ha3
  show Go E M_FP_spreadsOf 1 6 8 [(0, .ref c0), (1, V a1), (2, V a2), (3, V a3)] [] (WX X S) 1 6 K
  replace h : lb_FP_spreadsOf_8 c0 a1 S go a2 a3 = some q := h
  unfold lb_FP_spreadsOf_8 at h
  refine g_iloadn (pc := 8) (i0 := 3) (j := 3) (dK D_FP_spreadsOf 6 rfl) rfl rfl ?_
  refine g_aloadn (pc := 9) (i0 := 0) (j := 0) (dK D_FP_spreadsOf 7 rfl) rfl rfl ?_
  refine vg_getO (pc := 10) (ci := 10) (f := 3) (dK D_FP_spreadsOf 8 rfl) q_425 hc0 (ltK rfl) (ltK rfl) rfl ?_
  refine vg_getI (pc := 13) (ci := 4) (f := 1) (dK D_FP_spreadsOf 9 rfl) q_296 (hw_10_3 hc0) (ltK rfl) (ltK rfl) rfl ?_
  refine vg_iconst (pc := 16) (dK D_FP_spreadsOf 10 rfl) ?_
  refine vg_idiv (pc := 17) (dK D_FP_spreadsOf 11 rfl) (g_in _ _ _) (inRk rfl) (by decide) ?_
  refine nmE h (fun v2 e_v2 h => ?_)
  refine gtop e_v2 ?_
  refine vg_icmp_gt (pc := 18) (t := 47) (dK D_FP_spreadsOf 12 rfl) rfl ha3 (Vn_in e_v2) (fun hc8 => ?_) (fun hc8 => ?_)
  · replace h := ifP h hc8
    obtain rfl := Option.some.inj h
    refine gL_weak (ls' := [(2, V a2)]) (sbc 2 rfl sbn) ?_
    exact hx ha2
  · replace h := ifN h hc8
    refine g_aloadn (pc := 21) (i0 := 0) (j := 0) (dK D_FP_spreadsOf 13 rfl) rfl rfl ?_
    refine vg_getO (pc := 22) (ci := 10) (f := 3) (dK D_FP_spreadsOf 14 rfl) q_425 hc0 (ltK rfl) (ltK rfl) rfl ?_
    refine vg_getA (pc := 25) (ci := 4) (f := 7) (dK D_FP_spreadsOf 15 rfl) q_313 (hw_10_3 hc0) (ltK rfl) (ltK rfl) rfl ?_
    refine g_iloadn (pc := 28) (i0 := 1) (j := 1) (dK D_FP_spreadsOf 16 rfl) rfl rfl ?_
    refine vg_bipush (pc := 29) (dK D_FP_spreadsOf 17 rfl) rfl ?_
    refine vg_imul (pc := 31) (dK D_FP_spreadsOf 18 rfl) ?_
    refine g_iloadn (pc := 32) (i0 := 3) (j := 3) (dK D_FP_spreadsOf 19 rfl) rfl rfl ?_
    refine vg_iadd (pc := 33) (dK D_FP_spreadsOf 20 rfl) ?_
    refine gdE h (fun hi3 h => ?_)
    refine vg_iaload (pc := 34) (j := (((a1 * 33) + a3)).toNat) (dK D_FP_spreadsOf 21 rfl) (hw_4_7 (hw_10_3 hc0)) rfl hi3 rfl ?_
    refine vg_if_le (pc := 35) (t := 41) (dK D_FP_spreadsOf 22 rfl) rfl (g_in _ _ _) (fun hc7 => ?_) (fun hc7 => ?_)
    · replace h := ifP h hc7
      refine nmE h (fun v4 e_v4 h => ?_)
      refine vg_iinc (pc := 41) (j := 3) (a := a3) (z := 1) (ls2 := [(3, V v4), (0, .ref c0), (1, V a1), (2, V a2)]) (dK D_FP_spreadsOf 24 rfl) rfl e_v4 (ltK rfl) rfl ?_
      refine g_goto (pc := 44) (tgt := 8) (dK D_FP_spreadsOf 25 rfl) rfl ?_
      refine gL_weak (ls' := [(0, .ref c0), (1, V a1), (2, V a2), (3, V v4)]) (sbc 1 rfl (sbc 2 rfl (sbc 3 rfl (sbc 0 rfl sbn)))) ?_
      replace h := ih _ h
      exact h ha2 (Vn_in e_v4)
    · replace h := ifN h hc7
      refine nmE h (fun v5 e_v5 h => ?_)
      refine vg_iinc (pc := 38) (j := 2) (a := a2) (z := 1) (ls2 := [(2, V v5), (0, .ref c0), (1, V a1), (3, V a3)]) (dK D_FP_spreadsOf 23 rfl) rfl e_v5 (ltK rfl) rfl ?_
      refine nmE h (fun v6 e_v6 h => ?_)
      refine vg_iinc (pc := 41) (j := 3) (a := a3) (z := 1) (ls2 := [(3, V v6), (2, V v5), (0, .ref c0), (1, V a1)]) (dK D_FP_spreadsOf 24 rfl) rfl e_v6 (ltK rfl) rfl ?_
      refine g_goto (pc := 44) (tgt := 8) (dK D_FP_spreadsOf 25 rfl) rfl ?_
      refine gL_weak (ls' := [(0, .ref c0), (1, V a1), (2, V v5), (3, V v6)]) (sbc 2 rfl (sbc 3 rfl (sbc 1 rfl (sbc 0 rfl sbn)))) ?_
      replace h := ih _ h
      exact h (Vn_in e_v5) (Vn_in e_v6)
def fn_FP_spreadsOf (c0 : Nat) (a1 : Int) (S : St) : Option (Nat × Int) := bnO (fn_FP_needGroup a1 S) fun p1 => if p1 = 0 then (bnO (lo_FP_spreadsOf_8 c0 a1 S FU (0, 0)) fun p9 => some (0, p9)) else (some (p1, 0))
theorem tf_FP_spreadsOf {E : EV} {X : XT} (hfl : X.2.2.2 = false) {c0 : Nat} (hc0 : HC X 10 c0) {a1 : Int} (ha1 : inR a1) {S : St} {q : Nat × Int} (h : fn_FP_spreadsOf c0 a1 S = some q) : Ev E M_FP_spreadsOf [.ref c0, V a1] (WX X S) 1 6 (KT X q.1 S (KI X q.2 S)) := by
  refine Ev.of pn_FP rfl (leK rfl) ?_
  show Go E M_FP_spreadsOf 1 6 0 [(0, .ref c0), (1, V a1)] [] (WX X S) 0 0 (KT X q.1 S (KI X q.2 S))
  unfold fn_FP_spreadsOf at h
  refine g_iloadn (pc := 0) (i0 := 1) (j := 1) (dK D_FP_spreadsOf 0 rfl) rfl rfl ?_
  refine bnE h (fun p1 e_p1 h => ?_)
  refine vg_cS (pc := 1) (As := [V a1]) (rest := []) (mc' := 1) (ms' := 6) (dK D_FP_spreadsOf 1 rfl) K_FP_329 (fitK rfl) rfl (leK rfl) (leK rfl) (leK rfl) (tf_FP_needGroup hfl ha1 e_p1) (kcT hfl (fun he10 => kcU ?_) (fun he10 => ⟨rfl, ?_⟩))
  · replace h := ifP h he10
    refine vg_iconst (pc := 4) (dK D_FP_spreadsOf 2 rfl) ?_
    refine g_istoren (pc := 5) (i0 := 2) (ls2 := [(2, V 0), (0, .ref c0), (1, V a1)]) (dK D_FP_spreadsOf 3 rfl) rfl (ltK rfl) rfl ?_
    refine vg_iconst (pc := 6) (dK D_FP_spreadsOf 4 rfl) ?_
    refine g_istoren (pc := 7) (i0 := 3) (ls2 := [(3, V 0), (2, V 0), (0, .ref c0), (1, V a1)]) (dK D_FP_spreadsOf 5 rfl) rfl (ltK rfl) rfl ?_
    refine bnE h (fun p9 e_p9 h => ?_)
    refine gL_weak (ls' := [(0, .ref c0), (1, V a1), (2, V 0), (3, V 0)]) (sbc 2 rfl (sbc 3 rfl (sbc 1 rfl (sbc 0 rfl sbn)))) ?_
    refine tl_FP_spreadsOf_8 hfl hc0 ha1 (fun hx2_p9 => ?_) FU (0, 0) e_p9 (inRk rfl) (inRk rfl)
    refine g_iloadn (pc := 47) (i0 := 2) (j := 0) (dK D_FP_spreadsOf 26 rfl) rfl rfl ?_
    exact vg_iretI (pc := 48) (r := p9) (dK D_FP_spreadsOf 27 rfl) rfl (leK rfl) (leK rfl) (xf hfl) (by obtain rfl := Option.some.inj h; exact KT_ok ⟨rfl, hx2_p9, rfl⟩)
  · replace h := ifN h he10
    obtain rfl := Option.some.inj h
    exact KT_thr he10
def fn_Law_spreadsOf (c0 : Nat) (a1 : Int) (c2 : Nat) (S : St) : Option (Int × St) := bnO (fn_FP_spreadsOf c0 a1 S) fun p1 => if p1.1 = 0 then (nm (ul S c2 0 p1.2) fun S2 => some (0, S2)) else (if p1.1 = 2 then (some (1, S)) else none)
theorem tf_Law_spreadsOf {E : EV} {X : XT} (hfl : X.2.2.2 = false) {c0 : Nat} (hc0 : HC X 10 c0) {a1 : Int} (ha1 : inR a1) {c2 : Nat} (hc2 : HA X 3 1 c2) {S : St} {q : Int × St} (h : fn_Law_spreadsOf c0 a1 c2 S = some q) : EvH E M_Law_spreadsOf [.ref c0, V a1, .ref c2] (WX X S) 1 6 (KI X q.1 q.2) := by
  refine EvH.of pn_Law (leK rfl) ?_
  show Go E M_Law_spreadsOf 1 6 0 [(0, .ref c0), (1, V a1), (2, .ref c2)] [] (WX X S) 0 0 (KI X q.1 q.2)
  unfold fn_Law_spreadsOf at h
  refine g_aloadn (pc := 0) (i0 := 2) (j := 2) (dK D_Law_spreadsOf 0 rfl) rfl rfl ?_
  refine vg_iconst (pc := 1) (dK D_Law_spreadsOf 1 rfl) ?_
  refine g_aloadn (pc := 2) (i0 := 0) (j := 0) (dK D_Law_spreadsOf 2 rfl) rfl rfl ?_
  refine g_iloadn (pc := 3) (i0 := 1) (j := 1) (dK D_Law_spreadsOf 3 rfl) rfl rfl ?_
  refine bnE h (fun p1 e_p1 h => ?_)
  refine vg_cVX hfl (pc := 4) (As := [V a1]) (rest := [V 0, .ref c2]) (mc' := 1) (ms' := 6) (dK D_Law_spreadsOf 4 rfl) K_Law_106 (fitK rfl) (ltK rfl) hc0 rfl (leK rfl) (leK rfl) (leK rfl) (tf_FP_spreadsOf hfl hc0 ha1 e_p1) (kxT hfl (fun he3 => kxI hfl (fun h_p1 => ?_)) (fun he3 => ?_))
  · replace h := ifP h he3
    refine vg_i2l (pc := 7) (dK D_Law_spreadsOf 5 rfl) h_p1 ?_
    refine nmE h (fun S2 e_S2 h => ?_)
    refine vg_lastore (pc := 8) (z := p1.2) (dK D_Law_spreadsOf 6 rfl) hc2 rfl ⟨by decide, by decide⟩ rfl e_S2 ?_
    refine g_goto (pc := 9) (tgt := 15) (dK D_Law_spreadsOf 7 rfl) rfl ?_
    refine vg_iconst (pc := 15) (dK D_Law_spreadsOf 11 rfl) ?_
    exact vg_iretI (pc := 16) (r := 0) (dK D_Law_spreadsOf 12 rfl) rfl (leK rfl) (leK rfl) (xf hfl) (by obtain rfl := Option.some.inj h; exact ⟨rfl, (inRk rfl), rfl⟩)
  · replace h := ifN h he3
    by_cases hq4 : p1.1 = 2
    · have h := ifP h hq4
      rw [hq4]
      exact ⟨_, CT_Law_spreadsOf_4_2, (by obtain rfl := Option.some.inj h; exact ⟨rfl, (inRk rfl), rfl⟩)⟩
    · replace h := ifN h hq4
      exact nomatch h
def lb_FP_revenueOf_21 (c0 : Nat) (a1 : Int) (c2 : Nat) (S : St) (go : Int × Int → Option (Int)) (a3 : Int) (a4 : Int) : Option (Int) := if (g S c2 7) ≤ a4 then (some a3) else (if 0 ≤ a4 ∧ a4 < 40 then (bnO (fn_Plan_formAt (tgt c0 3) (g S (tgt c2 6) a4.toNat) S) fun p3 => if p3 = a1 then (nm (wr (a3 + (g S (tgt c2 4) a4.toNat))) fun v5 => nm (wr (a4 + 1)) fun v6 => go (v5, v6)) else (nm (wr (a4 + 1)) fun v4 => go (a3, v4))) else none)
def lo_FP_revenueOf_21 (c0 : Nat) (a1 : Int) (c2 : Nat) (S : St) : Nat → Int × Int → Option (Int) := lp fun go p => lb_FP_revenueOf_21 c0 a1 c2 S go p.1 p.2
theorem tl_FP_revenueOf_21 {E : EV} {X : XT} (hfl : X.2.2.2 = false) {c0 : Nat} (hc0 : HC X 10 c0) {a1 : Int} (ha1 : inR a1) {c2 : Nat} (hc2 : HC X 0 c2) {S : St} {K : RK → PS → Prop} {q : Int} (hx : inR q → Go E M_FP_revenueOf 1 6 64 [(3, V q)] [] (WX X S) 1 6 K) : ∀ n a, lo_FP_revenueOf_21 c0 a1 c2 S n a = some q → inR a.1 → inR a.2 → Go E M_FP_revenueOf 1 6 21 [(0, .ref c0), (1, V a1), (2, .ref c2), (3, V a.1), (4, V a.2)] [] (WX X S) 1 6 K := by
  refine lp_ind (P := fun a : Int × Int => inR a.1 → inR a.2 → Go E M_FP_revenueOf 1 6 21 [(0, .ref c0), (1, V a1), (2, .ref c2), (3, V a.1), (4, V a.2)] [] (WX X S) 1 6 K) (fun go ih a h => ?_)
  obtain ⟨a3, a4⟩ := a
  intro ha3 ha4
  show Go E M_FP_revenueOf 1 6 21 [(0, .ref c0), (1, V a1), (2, .ref c2), (3, V a3), (4, V a4)] [] (WX X S) 1 6 K
  replace h : lb_FP_revenueOf_21 c0 a1 c2 S go a3 a4 = some q := h
  unfold lb_FP_revenueOf_21 at h
  refine g_iload (pc := 21) (j := 4) (dK D_FP_revenueOf 12 rfl) rfl ?_
  refine g_aloadn (pc := 23) (i0 := 2) (j := 2) (dK D_FP_revenueOf 13 rfl) rfl rfl ?_
  refine vg_getI (pc := 24) (ci := 0) (f := 7) (dK D_FP_revenueOf 14 rfl) q_109 hc2 (ltK rfl) (ltK rfl) rfl ?_
  refine vg_icmp_ge (pc := 27) (t := 64) (dK D_FP_revenueOf 15 rfl) rfl ha4 (g_in _ _ _) (fun hc8 => ?_) (fun hc8 => ?_)
  · replace h := ifP h hc8
    obtain rfl := Option.some.inj h
    refine gL_weak (ls' := [(3, V a3)]) (sbc 3 rfl sbn) ?_
    exact hx ha3
  · replace h := ifN h hc8
    refine g_aloadn (pc := 30) (i0 := 0) (j := 0) (dK D_FP_revenueOf 16 rfl) rfl rfl ?_
    refine vg_getO (pc := 31) (ci := 10) (f := 3) (dK D_FP_revenueOf 17 rfl) q_425 hc0 (ltK rfl) (ltK rfl) rfl ?_
    refine g_aloadn (pc := 34) (i0 := 2) (j := 2) (dK D_FP_revenueOf 18 rfl) rfl rfl ?_
    refine vg_getA (pc := 35) (ci := 0) (f := 6) (dK D_FP_revenueOf 19 rfl) q_103 hc2 (ltK rfl) (ltK rfl) rfl ?_
    refine g_iload (pc := 38) (j := 4) (dK D_FP_revenueOf 20 rfl) rfl ?_
    refine gdE h (fun hi2 h => ?_)
    refine vg_iaload (pc := 40) (j := a4.toNat) (dK D_FP_revenueOf 21 rfl) (hw_0_6 hc2) rfl hi2 rfl ?_
    refine bnE h (fun p3 e_p3 h => ?_)
    refine vg_cV (pc := 41) (As := [V (g S (tgt c2 6) a4.toNat)]) (rest := []) (mc' := 0) (ms' := 0) (dK D_FP_revenueOf 22 rfl) K_FP_337 (fitK rfl) (ltK rfl) (hw_10_3 hc0) rfl (leK rfl) (leK rfl) (leK rfl) (tf_Plan_formAt (hw_10_3 hc0) (g_in _ _ _) e_p3) (kcI (fun h_p3 => ?_))
    refine g_iloadn (pc := 44) (i0 := 1) (j := 1) (dK D_FP_revenueOf 23 rfl) rfl rfl ?_
    refine vg_icmp_ne (pc := 45) (t := 58) (dK D_FP_revenueOf 24 rfl) rfl h_p3 ha1 (fun hc7 => ?_) (fun hc7 => ?_)
    · replace h := ifN h hc7
      refine nmE h (fun v4 e_v4 h => ?_)
      refine vg_iinc (pc := 58) (j := 4) (a := a4) (z := 1) (ls2 := [(4, V v4), (0, .ref c0), (1, V a1), (2, .ref c2), (3, V a3)]) (dK D_FP_revenueOf 32 rfl) rfl e_v4 (ltK rfl) rfl ?_
      refine g_goto (pc := 61) (tgt := 21) (dK D_FP_revenueOf 33 rfl) rfl ?_
      refine gL_weak (ls' := [(0, .ref c0), (1, V a1), (2, .ref c2), (3, V a3), (4, V v4)]) (sbc 1 rfl (sbc 2 rfl (sbc 3 rfl (sbc 4 rfl (sbc 0 rfl sbn))))) ?_
      replace h := ih _ h
      exact h ha3 (Vn_in e_v4)
    · replace h := ifP h hc7
      refine g_iloadn (pc := 48) (i0 := 3) (j := 3) (dK D_FP_revenueOf 25 rfl) rfl rfl ?_
      refine g_aloadn (pc := 49) (i0 := 2) (j := 2) (dK D_FP_revenueOf 26 rfl) rfl rfl ?_
      refine vg_getA (pc := 50) (ci := 0) (f := 4) (dK D_FP_revenueOf 27 rfl) q_94 hc2 (ltK rfl) (ltK rfl) rfl ?_
      refine g_iload (pc := 53) (j := 4) (dK D_FP_revenueOf 28 rfl) rfl ?_
      refine vg_iaload (pc := 55) (j := a4.toNat) (dK D_FP_revenueOf 29 rfl) (hw_0_4 hc2) rfl hi2 rfl ?_
      refine vg_iadd (pc := 56) (dK D_FP_revenueOf 30 rfl) ?_
      refine nmE h (fun v5 e_v5 h => ?_)
      refine gtop e_v5 ?_
      refine g_istoren (pc := 57) (i0 := 3) (ls2 := [(3, V v5), (0, .ref c0), (1, V a1), (2, .ref c2), (4, V a4)]) (dK D_FP_revenueOf 31 rfl) rfl (ltK rfl) rfl ?_
      refine nmE h (fun v6 e_v6 h => ?_)
      refine vg_iinc (pc := 58) (j := 4) (a := a4) (z := 1) (ls2 := [(4, V v6), (3, V v5), (0, .ref c0), (1, V a1), (2, .ref c2)]) (dK D_FP_revenueOf 32 rfl) rfl e_v6 (ltK rfl) rfl ?_
      refine g_goto (pc := 61) (tgt := 21) (dK D_FP_revenueOf 33 rfl) rfl ?_
      refine gL_weak (ls' := [(0, .ref c0), (1, V a1), (2, .ref c2), (3, V v5), (4, V v6)]) (sbc 2 rfl (sbc 3 rfl (sbc 4 rfl (sbc 1 rfl (sbc 0 rfl sbn))))) ?_
      replace h := ih _ h
      exact h (Vn_in e_v5) (Vn_in e_v6)
def fn_FP_revenueOf (c0 : Nat) (a1 : Int) (S : St) : Option (Nat × Int) := bnO (fn_FP_needForm c0 a1 S) fun p1 => if p1 = 0 then (bnO (lo_FP_revenueOf_21 c0 a1 (tgt (tgt (tgt c0 3) 0) 0) S FU (0, 0)) fun p9 => some (0, p9)) else (some (p1, 0))
theorem tf_FP_revenueOf {E : EV} {X : XT} (hfl : X.2.2.2 = false) {c0 : Nat} (hc0 : HC X 10 c0) {a1 : Int} (ha1 : inR a1) {S : St} {q : Nat × Int} (h : fn_FP_revenueOf c0 a1 S = some q) : Ev E M_FP_revenueOf [.ref c0, V a1] (WX X S) 1 6 (KT X q.1 S (KI X q.2 S)) := by
  refine Ev.of pn_FP rfl (leK rfl) ?_
  show Go E M_FP_revenueOf 1 6 0 [(0, .ref c0), (1, V a1)] [] (WX X S) 0 0 (KT X q.1 S (KI X q.2 S))
  unfold fn_FP_revenueOf at h
  refine g_aloadn (pc := 0) (i0 := 0) (j := 0) (dK D_FP_revenueOf 0 rfl) rfl rfl ?_
  refine g_iloadn (pc := 1) (i0 := 1) (j := 1) (dK D_FP_revenueOf 1 rfl) rfl rfl ?_
  refine bnE h (fun p1 e_p1 h => ?_)
  refine vg_cV (pc := 2) (As := [V a1]) (rest := []) (mc' := 1) (ms' := 6) (dK D_FP_revenueOf 2 rfl) K_FP_223 (fitK rfl) (ltK rfl) hc0 rfl (leK rfl) (leK rfl) (leK rfl) (tf_FP_needForm hfl hc0 ha1 e_p1) (kcT hfl (fun he10 => kcU ?_) (fun he10 => ⟨rfl, ?_⟩))
  · replace h := ifP h he10
    refine g_aloadn (pc := 5) (i0 := 0) (j := 0) (dK D_FP_revenueOf 3 rfl) rfl rfl ?_
    refine vg_getO (pc := 6) (ci := 10) (f := 3) (dK D_FP_revenueOf 4 rfl) q_425 hc0 (ltK rfl) (ltK rfl) rfl ?_
    refine vg_getO (pc := 9) (ci := 4) (f := 0) (dK D_FP_revenueOf 5 rfl) q_292 (hw_10_3 hc0) (ltK rfl) (ltK rfl) rfl ?_
    refine vg_getO (pc := 12) (ci := 8) (f := 0) (dK D_FP_revenueOf 6 rfl) q_224 (hw_4_0 (hw_10_3 hc0)) (ltK rfl) (ltK rfl) rfl ?_
    refine g_astoren (pc := 15) (i0 := 2) (ls2 := [(2, .ref (tgt (tgt (tgt c0 3) 0) 0)), (0, .ref c0), (1, V a1)]) (dK D_FP_revenueOf 7 rfl) rfl (ltK rfl) rfl ?_
    refine vg_iconst (pc := 16) (dK D_FP_revenueOf 8 rfl) ?_
    refine g_istoren (pc := 17) (i0 := 3) (ls2 := [(3, V 0), (2, .ref (tgt (tgt (tgt c0 3) 0) 0)), (0, .ref c0), (1, V a1)]) (dK D_FP_revenueOf 9 rfl) rfl (ltK rfl) rfl ?_
    refine vg_iconst (pc := 18) (dK D_FP_revenueOf 10 rfl) ?_
    refine g_istore (pc := 19) (ls2 := [(4, V 0), (3, V 0), (2, .ref (tgt (tgt (tgt c0 3) 0) 0)), (0, .ref c0), (1, V a1)]) (dK D_FP_revenueOf 11 rfl) (ltK rfl) rfl ?_
    refine bnE h (fun p9 e_p9 h => ?_)
    refine gL_weak (ls' := [(0, .ref c0), (1, V a1), (2, .ref (tgt (tgt (tgt c0 3) 0) 0)), (3, V 0), (4, V 0)]) (sbc 3 rfl (sbc 4 rfl (sbc 2 rfl (sbc 1 rfl (sbc 0 rfl sbn))))) ?_
    refine tl_FP_revenueOf_21 hfl hc0 ha1 (hw_8_0 (hw_4_0 (hw_10_3 hc0))) (fun hx3_p9 => ?_) FU (0, 0) e_p9 (inRk rfl) (inRk rfl)
    refine g_iloadn (pc := 64) (i0 := 3) (j := 0) (dK D_FP_revenueOf 34 rfl) rfl rfl ?_
    exact vg_iretI (pc := 65) (r := p9) (dK D_FP_revenueOf 35 rfl) rfl (leK rfl) (leK rfl) (xf hfl) (by obtain rfl := Option.some.inj h; exact KT_ok ⟨rfl, hx3_p9, rfl⟩)
  · replace h := ifN h he10
    obtain rfl := Option.some.inj h
    exact KT_thr he10
def fn_Law_revenueOf (c0 : Nat) (a1 : Int) (c2 : Nat) (S : St) : Option (Int × St) := bnO (fn_FP_revenueOf c0 a1 S) fun p1 => if p1.1 = 0 then (nm (ul S c2 0 p1.2) fun S2 => some (0, S2)) else (if p1.1 = 1 then (some (1, S)) else none)
theorem tf_Law_revenueOf {E : EV} {X : XT} (hfl : X.2.2.2 = false) {c0 : Nat} (hc0 : HC X 10 c0) {a1 : Int} (ha1 : inR a1) {c2 : Nat} (hc2 : HA X 3 1 c2) {S : St} {q : Int × St} (h : fn_Law_revenueOf c0 a1 c2 S = some q) : EvH E M_Law_revenueOf [.ref c0, V a1, .ref c2] (WX X S) 1 6 (KI X q.1 q.2) := by
  refine EvH.of pn_Law (leK rfl) ?_
  show Go E M_Law_revenueOf 1 6 0 [(0, .ref c0), (1, V a1), (2, .ref c2)] [] (WX X S) 0 0 (KI X q.1 q.2)
  unfold fn_Law_revenueOf at h
  refine g_aloadn (pc := 0) (i0 := 2) (j := 2) (dK D_Law_revenueOf 0 rfl) rfl rfl ?_
  refine vg_iconst (pc := 1) (dK D_Law_revenueOf 1 rfl) ?_
  refine g_aloadn (pc := 2) (i0 := 0) (j := 0) (dK D_Law_revenueOf 2 rfl) rfl rfl ?_
  refine g_iloadn (pc := 3) (i0 := 1) (j := 1) (dK D_Law_revenueOf 3 rfl) rfl rfl ?_
  refine bnE h (fun p1 e_p1 h => ?_)
  refine vg_cVX hfl (pc := 4) (As := [V a1]) (rest := [V 0, .ref c2]) (mc' := 1) (ms' := 6) (dK D_Law_revenueOf 4 rfl) K_Law_109 (fitK rfl) (ltK rfl) hc0 rfl (leK rfl) (leK rfl) (leK rfl) (tf_FP_revenueOf hfl hc0 ha1 e_p1) (kxT hfl (fun he3 => kxI hfl (fun h_p1 => ?_)) (fun he3 => ?_))
  · replace h := ifP h he3
    refine vg_i2l (pc := 7) (dK D_Law_revenueOf 5 rfl) h_p1 ?_
    refine nmE h (fun S2 e_S2 h => ?_)
    refine vg_lastore (pc := 8) (z := p1.2) (dK D_Law_revenueOf 6 rfl) hc2 rfl ⟨by decide, by decide⟩ rfl e_S2 ?_
    refine g_goto (pc := 9) (tgt := 15) (dK D_Law_revenueOf 7 rfl) rfl ?_
    refine vg_iconst (pc := 15) (dK D_Law_revenueOf 11 rfl) ?_
    exact vg_iretI (pc := 16) (r := 0) (dK D_Law_revenueOf 12 rfl) rfl (leK rfl) (leK rfl) (xf hfl) (by obtain rfl := Option.some.inj h; exact ⟨rfl, (inRk rfl), rfl⟩)
  · replace h := ifN h he3
    by_cases hq4 : p1.1 = 1
    · have h := ifP h hq4
      rw [hq4]
      exact ⟨_, CT_Law_revenueOf_4_1, (by obtain rfl := Option.some.inj h; exact ⟨rfl, (inRk rfl), rfl⟩)⟩
    · replace h := ifN h hq4
      exact nomatch h
def lb_FP_revenueOfGroup_20 (a1 : Int) (c2 : Nat) (S : St) (go : Int × Int → Option (Int)) (a3 : Int) (a4 : Int) : Option (Int) := if (g S c2 7) ≤ a4 then (some a3) else (if 0 ≤ a4 ∧ a4 < 40 then (if (g S (tgt c2 6) a4.toNat) = 0 then (nm (wr (a4 + 1)) fun v3 => go (a3, v3)) else (if (g S (tgt c2 1) a4.toNat) = a1 then (nm (wr (a3 + (g S (tgt c2 4) a4.toNat))) fun v5 => nm (wr (a4 + 1)) fun v6 => go (v5, v6)) else (nm (wr (a4 + 1)) fun v4 => go (a3, v4)))) else none)
def lo_FP_revenueOfGroup_20 (a1 : Int) (c2 : Nat) (S : St) : Nat → Int × Int → Option (Int) := lp fun go p => lb_FP_revenueOfGroup_20 a1 c2 S go p.1 p.2
theorem tl_FP_revenueOfGroup_20 {E : EV} {X : XT} (hfl : X.2.2.2 = false) {a1 : Int} (ha1 : inR a1) {c2 : Nat} (hc2 : HC X 0 c2) {S : St} {K : RK → PS → Prop} {q : Int} (hx : inR q → Go E M_FP_revenueOfGroup 1 6 66 [(3, V q)] [] (WX X S) 1 6 K) : ∀ n a, lo_FP_revenueOfGroup_20 a1 c2 S n a = some q → inR a.1 → inR a.2 → Go E M_FP_revenueOfGroup 1 6 20 [(1, V a1), (2, .ref c2), (3, V a.1), (4, V a.2)] [] (WX X S) 1 6 K := by
  refine lp_ind (P := fun a : Int × Int => inR a.1 → inR a.2 → Go E M_FP_revenueOfGroup 1 6 20 [(1, V a1), (2, .ref c2), (3, V a.1), (4, V a.2)] [] (WX X S) 1 6 K) (fun go ih a h => ?_)
  obtain ⟨a3, a4⟩ := a
  intro ha3 ha4
  show Go E M_FP_revenueOfGroup 1 6 20 [(1, V a1), (2, .ref c2), (3, V a3), (4, V a4)] [] (WX X S) 1 6 K
  replace h : lb_FP_revenueOfGroup_20 a1 c2 S go a3 a4 = some q := h
  unfold lb_FP_revenueOfGroup_20 at h
  refine g_iload (pc := 20) (j := 3) (dK D_FP_revenueOfGroup 11 rfl) rfl ?_
  refine g_aloadn (pc := 22) (i0 := 2) (j := 1) (dK D_FP_revenueOfGroup 12 rfl) rfl rfl ?_
  refine vg_getI (pc := 23) (ci := 0) (f := 7) (dK D_FP_revenueOfGroup 13 rfl) q_109 hc2 (ltK rfl) (ltK rfl) rfl ?_
  refine vg_icmp_ge (pc := 26) (t := 66) (dK D_FP_revenueOfGroup 14 rfl) rfl ha4 (g_in _ _ _) (fun hc9 => ?_) (fun hc9 => ?_)
  · replace h := ifP h hc9
    obtain rfl := Option.some.inj h
    refine gL_weak (ls' := [(3, V a3)]) (sbc 2 rfl sbn) ?_
    exact hx ha3
  · replace h := ifN h hc9
    refine g_aloadn (pc := 29) (i0 := 2) (j := 1) (dK D_FP_revenueOfGroup 15 rfl) rfl rfl ?_
    refine vg_getA (pc := 30) (ci := 0) (f := 6) (dK D_FP_revenueOfGroup 16 rfl) q_103 hc2 (ltK rfl) (ltK rfl) rfl ?_
    refine g_iload (pc := 33) (j := 3) (dK D_FP_revenueOfGroup 17 rfl) rfl ?_
    refine gdE h (fun hi2 h => ?_)
    refine vg_iaload (pc := 35) (j := a4.toNat) (dK D_FP_revenueOfGroup 18 rfl) (hw_0_6 hc2) rfl hi2 rfl ?_
    refine vg_if_eq (pc := 36) (t := 60) (dK D_FP_revenueOfGroup 19 rfl) rfl (g_in _ _ _) (fun hc8 => ?_) (fun hc8 => ?_)
    · replace h := ifP h hc8
      refine nmE h (fun v3 e_v3 h => ?_)
      refine vg_iinc (pc := 60) (j := 3) (a := a4) (z := 1) (ls2 := [(4, V v3), (1, V a1), (2, .ref c2), (3, V a3)]) (dK D_FP_revenueOfGroup 33 rfl) rfl e_v3 (ltK rfl) rfl ?_
      refine g_goto (pc := 63) (tgt := 20) (dK D_FP_revenueOfGroup 34 rfl) rfl ?_
      refine gL_weak (ls' := [(1, V a1), (2, .ref c2), (3, V a3), (4, V v3)]) (sbc 1 rfl (sbc 2 rfl (sbc 3 rfl (sbc 0 rfl sbn)))) ?_
      replace h := ih _ h
      exact h ha3 (Vn_in e_v3)
    · replace h := ifN h hc8
      refine g_aloadn (pc := 39) (i0 := 2) (j := 1) (dK D_FP_revenueOfGroup 20 rfl) rfl rfl ?_
      refine vg_getA (pc := 40) (ci := 0) (f := 1) (dK D_FP_revenueOfGroup 21 rfl) q_82 hc2 (ltK rfl) (ltK rfl) rfl ?_
      refine g_iload (pc := 43) (j := 3) (dK D_FP_revenueOfGroup 22 rfl) rfl ?_
      refine vg_iaload (pc := 45) (j := a4.toNat) (dK D_FP_revenueOfGroup 23 rfl) (hw_0_1 hc2) rfl hi2 rfl ?_
      refine g_iloadn (pc := 46) (i0 := 1) (j := 0) (dK D_FP_revenueOfGroup 24 rfl) rfl rfl ?_
      refine vg_icmp_ne (pc := 47) (t := 60) (dK D_FP_revenueOfGroup 25 rfl) rfl (g_in _ _ _) ha1 (fun hc7 => ?_) (fun hc7 => ?_)
      · replace h := ifN h hc7
        refine nmE h (fun v4 e_v4 h => ?_)
        refine vg_iinc (pc := 60) (j := 3) (a := a4) (z := 1) (ls2 := [(4, V v4), (1, V a1), (2, .ref c2), (3, V a3)]) (dK D_FP_revenueOfGroup 33 rfl) rfl e_v4 (ltK rfl) rfl ?_
        refine g_goto (pc := 63) (tgt := 20) (dK D_FP_revenueOfGroup 34 rfl) rfl ?_
        refine gL_weak (ls' := [(1, V a1), (2, .ref c2), (3, V a3), (4, V v4)]) (sbc 1 rfl (sbc 2 rfl (sbc 3 rfl (sbc 0 rfl sbn)))) ?_
        replace h := ih _ h
        exact h ha3 (Vn_in e_v4)
      · replace h := ifP h hc7
        refine g_iloadn (pc := 50) (i0 := 3) (j := 2) (dK D_FP_revenueOfGroup 26 rfl) rfl rfl ?_
        refine g_aloadn (pc := 51) (i0 := 2) (j := 1) (dK D_FP_revenueOfGroup 27 rfl) rfl rfl ?_
        refine vg_getA (pc := 52) (ci := 0) (f := 4) (dK D_FP_revenueOfGroup 28 rfl) q_94 hc2 (ltK rfl) (ltK rfl) rfl ?_
        refine g_iload (pc := 55) (j := 3) (dK D_FP_revenueOfGroup 29 rfl) rfl ?_
        refine vg_iaload (pc := 57) (j := a4.toNat) (dK D_FP_revenueOfGroup 30 rfl) (hw_0_4 hc2) rfl hi2 rfl ?_
        refine vg_iadd (pc := 58) (dK D_FP_revenueOfGroup 31 rfl) ?_
        refine nmE h (fun v5 e_v5 h => ?_)
        refine gtop e_v5 ?_
        refine g_istoren (pc := 59) (i0 := 3) (ls2 := [(3, V v5), (1, V a1), (2, .ref c2), (4, V a4)]) (dK D_FP_revenueOfGroup 32 rfl) rfl (ltK rfl) rfl ?_
        refine nmE h (fun v6 e_v6 h => ?_)
        refine vg_iinc (pc := 60) (j := 3) (a := a4) (z := 1) (ls2 := [(4, V v6), (3, V v5), (1, V a1), (2, .ref c2)]) (dK D_FP_revenueOfGroup 33 rfl) rfl e_v6 (ltK rfl) rfl ?_
        refine g_goto (pc := 63) (tgt := 20) (dK D_FP_revenueOfGroup 34 rfl) rfl ?_
        refine gL_weak (ls' := [(1, V a1), (2, .ref c2), (3, V v5), (4, V v6)]) (sbc 2 rfl (sbc 3 rfl (sbc 1 rfl (sbc 0 rfl sbn)))) ?_
        replace h := ih _ h
        exact h (Vn_in e_v5) (Vn_in e_v6)
def fn_FP_revenueOfGroup (c0 : Nat) (a1 : Int) (S : St) : Option (Nat × Int) := bnO (fn_FP_needGroup a1 S) fun p1 => if p1 = 0 then (bnO (lo_FP_revenueOfGroup_20 a1 (tgt (tgt (tgt c0 3) 0) 0) S FU (0, 0)) fun p10 => some (0, p10)) else (some (p1, 0))
theorem tf_FP_revenueOfGroup {E : EV} {X : XT} (hfl : X.2.2.2 = false) {c0 : Nat} (hc0 : HC X 10 c0) {a1 : Int} (ha1 : inR a1) {S : St} {q : Nat × Int} (h : fn_FP_revenueOfGroup c0 a1 S = some q) : Ev E M_FP_revenueOfGroup [.ref c0, V a1] (WX X S) 1 6 (KT X q.1 S (KI X q.2 S)) := by
  refine Ev.of pn_FP rfl (leK rfl) ?_
  show Go E M_FP_revenueOfGroup 1 6 0 [(0, .ref c0), (1, V a1)] [] (WX X S) 0 0 (KT X q.1 S (KI X q.2 S))
  unfold fn_FP_revenueOfGroup at h
  refine g_iloadn (pc := 0) (i0 := 1) (j := 1) (dK D_FP_revenueOfGroup 0 rfl) rfl rfl ?_
  refine bnE h (fun p1 e_p1 h => ?_)
  refine vg_cS (pc := 1) (As := [V a1]) (rest := []) (mc' := 1) (ms' := 6) (dK D_FP_revenueOfGroup 1 rfl) K_FP_329 (fitK rfl) rfl (leK rfl) (leK rfl) (leK rfl) (tf_FP_needGroup hfl ha1 e_p1) (kcT hfl (fun he11 => kcU ?_) (fun he11 => ⟨rfl, ?_⟩))
  · replace h := ifP h he11
    refine g_aloadn (pc := 4) (i0 := 0) (j := 0) (dK D_FP_revenueOfGroup 2 rfl) rfl rfl ?_
    refine vg_getO (pc := 5) (ci := 10) (f := 3) (dK D_FP_revenueOfGroup 3 rfl) q_425 hc0 (ltK rfl) (ltK rfl) rfl ?_
    refine vg_getO (pc := 8) (ci := 4) (f := 0) (dK D_FP_revenueOfGroup 4 rfl) q_292 (hw_10_3 hc0) (ltK rfl) (ltK rfl) rfl ?_
    refine vg_getO (pc := 11) (ci := 8) (f := 0) (dK D_FP_revenueOfGroup 5 rfl) q_224 (hw_4_0 (hw_10_3 hc0)) (ltK rfl) (ltK rfl) rfl ?_
    refine g_astoren (pc := 14) (i0 := 2) (ls2 := [(2, .ref (tgt (tgt (tgt c0 3) 0) 0)), (0, .ref c0), (1, V a1)]) (dK D_FP_revenueOfGroup 6 rfl) rfl (ltK rfl) rfl ?_
    refine vg_iconst (pc := 15) (dK D_FP_revenueOfGroup 7 rfl) ?_
    refine g_istoren (pc := 16) (i0 := 3) (ls2 := [(3, V 0), (2, .ref (tgt (tgt (tgt c0 3) 0) 0)), (0, .ref c0), (1, V a1)]) (dK D_FP_revenueOfGroup 8 rfl) rfl (ltK rfl) rfl ?_
    refine vg_iconst (pc := 17) (dK D_FP_revenueOfGroup 9 rfl) ?_
    refine g_istore (pc := 18) (ls2 := [(4, V 0), (3, V 0), (2, .ref (tgt (tgt (tgt c0 3) 0) 0)), (0, .ref c0), (1, V a1)]) (dK D_FP_revenueOfGroup 10 rfl) (ltK rfl) rfl ?_
    refine bnE h (fun p10 e_p10 h => ?_)
    refine gL_weak (ls' := [(1, V a1), (2, .ref (tgt (tgt (tgt c0 3) 0) 0)), (3, V 0), (4, V 0)]) (sbc 4 rfl (sbc 2 rfl (sbc 1 rfl (sbc 0 rfl sbn)))) ?_
    refine tl_FP_revenueOfGroup_20 hfl ha1 (hw_8_0 (hw_4_0 (hw_10_3 hc0))) (fun hx3_p10 => ?_) FU (0, 0) e_p10 (inRk rfl) (inRk rfl)
    refine g_iloadn (pc := 66) (i0 := 3) (j := 0) (dK D_FP_revenueOfGroup 35 rfl) rfl rfl ?_
    exact vg_iretI (pc := 67) (r := p10) (dK D_FP_revenueOfGroup 36 rfl) rfl (leK rfl) (leK rfl) (xf hfl) (by obtain rfl := Option.some.inj h; exact KT_ok ⟨rfl, hx3_p10, rfl⟩)
  · replace h := ifN h he11
    obtain rfl := Option.some.inj h
    exact KT_thr he11
def fn_Law_revenueOfGroup (c0 : Nat) (a1 : Int) (c2 : Nat) (S : St) : Option (Int × St) := bnO (fn_FP_revenueOfGroup c0 a1 S) fun p1 => if p1.1 = 0 then (nm (ul S c2 0 p1.2) fun S2 => some (0, S2)) else (if p1.1 = 2 then (some (1, S)) else none)
theorem tf_Law_revenueOfGroup {E : EV} {X : XT} (hfl : X.2.2.2 = false) {c0 : Nat} (hc0 : HC X 10 c0) {a1 : Int} (ha1 : inR a1) {c2 : Nat} (hc2 : HA X 3 1 c2) {S : St} {q : Int × St} (h : fn_Law_revenueOfGroup c0 a1 c2 S = some q) : EvH E M_Law_revenueOfGroup [.ref c0, V a1, .ref c2] (WX X S) 1 6 (KI X q.1 q.2) := by
  refine EvH.of pn_Law (leK rfl) ?_
  show Go E M_Law_revenueOfGroup 1 6 0 [(0, .ref c0), (1, V a1), (2, .ref c2)] [] (WX X S) 0 0 (KI X q.1 q.2)
  unfold fn_Law_revenueOfGroup at h
  refine g_aloadn (pc := 0) (i0 := 2) (j := 2) (dK D_Law_revenueOfGroup 0 rfl) rfl rfl ?_
  refine vg_iconst (pc := 1) (dK D_Law_revenueOfGroup 1 rfl) ?_
  refine g_aloadn (pc := 2) (i0 := 0) (j := 0) (dK D_Law_revenueOfGroup 2 rfl) rfl rfl ?_
  refine g_iloadn (pc := 3) (i0 := 1) (j := 1) (dK D_Law_revenueOfGroup 3 rfl) rfl rfl ?_
  refine bnE h (fun p1 e_p1 h => ?_)
  refine vg_cVX hfl (pc := 4) (As := [V a1]) (rest := [V 0, .ref c2]) (mc' := 1) (ms' := 6) (dK D_Law_revenueOfGroup 4 rfl) K_Law_112 (fitK rfl) (ltK rfl) hc0 rfl (leK rfl) (leK rfl) (leK rfl) (tf_FP_revenueOfGroup hfl hc0 ha1 e_p1) (kxT hfl (fun he3 => kxI hfl (fun h_p1 => ?_)) (fun he3 => ?_))
  · replace h := ifP h he3
    refine vg_i2l (pc := 7) (dK D_Law_revenueOfGroup 5 rfl) h_p1 ?_
    refine nmE h (fun S2 e_S2 h => ?_)
    refine vg_lastore (pc := 8) (z := p1.2) (dK D_Law_revenueOfGroup 6 rfl) hc2 rfl ⟨by decide, by decide⟩ rfl e_S2 ?_
    refine g_goto (pc := 9) (tgt := 15) (dK D_Law_revenueOfGroup 7 rfl) rfl ?_
    refine vg_iconst (pc := 15) (dK D_Law_revenueOfGroup 11 rfl) ?_
    exact vg_iretI (pc := 16) (r := 0) (dK D_Law_revenueOfGroup 12 rfl) rfl (leK rfl) (leK rfl) (xf hfl) (by obtain rfl := Option.some.inj h; exact ⟨rfl, (inRk rfl), rfl⟩)
  · replace h := ifN h he3
    by_cases hq4 : p1.1 = 2
    · have h := ifP h hq4
      rw [hq4]
      exact ⟨_, CT_Law_revenueOfGroup_4_2, (by obtain rfl := Option.some.inj h; exact ⟨rfl, (inRk rfl), rfl⟩)⟩
    · replace h := ifN h hq4
      exact nomatch h
def lb_FP_emptyRun_26 (c0 : Nat) (a1 : Int) (S : St) (go : Int × Int → Option ((Int) ⊕ (Unit))) (a2 : Int) (a3 : Int) : Option ((Int) ⊕ (Unit)) := if (g S (tgt c0 3) 1) < a3 then (some (.inr ())) else (if 0 ≤ a3 ∧ a3 < 65 then (if (g S (tgt (tgt c0 3) 5) a3.toNat) = 4 then (nm (wr (a2 + 1)) fun v4 => if v4 = a1 then (some (.inl (wr ((a3 - a1) + 1)))) else (nm (wr (a3 + 1)) fun v5 => go (v4, v5))) else (if 0 = a1 then (some (.inl (wr ((a3 - a1) + 1)))) else (nm (wr (a3 + 1)) fun v2 => go (0, v2)))) else none)
def lo_FP_emptyRun_26 (c0 : Nat) (a1 : Int) (S : St) : Nat → Int × Int → Option ((Int) ⊕ (Unit)) := lp fun go p => lb_FP_emptyRun_26 c0 a1 S go p.1 p.2
theorem tl_FP_emptyRun_26 {E : EV} {X : XT} (hfl : X.2.2.2 = false) {c0 : Nat} (hc0 : HC X 10 c0) {a1 : Int} (ha1 : inR a1) {S : St} {K : RK → PS → Prop} {q : (Int) ⊕ (Unit)} (hx : ∀ p, q = .inr p → Go E M_FP_emptyRun 1 6 75 [] [] (WX X S) 0 0 K) (hr : ∀ p, q = .inl p → inR p → K (.inl (some (V p))) (WX X S)) : ∀ n a, lo_FP_emptyRun_26 c0 a1 S n a = some q → inR a.1 → inR a.2 → Go E M_FP_emptyRun 1 6 26 [(0, .ref c0), (1, V a1), (2, V a.1), (3, V a.2)] [] (WX X S) 0 0 K := by
  refine lp_ind (P := fun a : Int × Int => inR a.1 → inR a.2 → Go E M_FP_emptyRun 1 6 26 [(0, .ref c0), (1, V a1), (2, V a.1), (3, V a.2)] [] (WX X S) 0 0 K) (fun go ih a h => ?_)
  obtain ⟨a2, a3⟩ := a
  intro ha2 ha3
  show Go E M_FP_emptyRun 1 6 26 [(0, .ref c0), (1, V a1), (2, V a2), (3, V a3)] [] (WX X S) 0 0 K
  replace h : lb_FP_emptyRun_26 c0 a1 S go a2 a3 = some q := h
  unfold lb_FP_emptyRun_26 at h
  refine g_iloadn (pc := 26) (i0 := 3) (j := 3) (dK D_FP_emptyRun 15 rfl) rfl rfl ?_
  refine g_aloadn (pc := 27) (i0 := 0) (j := 0) (dK D_FP_emptyRun 16 rfl) rfl rfl ?_
  refine vg_getO (pc := 28) (ci := 10) (f := 3) (dK D_FP_emptyRun 17 rfl) q_425 hc0 (ltK rfl) (ltK rfl) rfl ?_
  refine vg_getI (pc := 31) (ci := 4) (f := 1) (dK D_FP_emptyRun 18 rfl) q_296 (hw_10_3 hc0) (ltK rfl) (ltK rfl) rfl ?_
  refine vg_icmp_gt (pc := 34) (t := 75) (dK D_FP_emptyRun 19 rfl) rfl ha3 (g_in _ _ _) (fun hc8 => ?_) (fun hc8 => ?_)
  · replace h := ifP h hc8
    refine gL_weak (ls' := []) sbn ?_
    exact hx _ (Option.some.inj h).symm 
  · replace h := ifN h hc8
    refine g_aloadn (pc := 37) (i0 := 0) (j := 0) (dK D_FP_emptyRun 20 rfl) rfl rfl ?_
    refine vg_getO (pc := 38) (ci := 10) (f := 3) (dK D_FP_emptyRun 21 rfl) q_425 hc0 (ltK rfl) (ltK rfl) rfl ?_
    refine vg_getA (pc := 41) (ci := 4) (f := 5) (dK D_FP_emptyRun 22 rfl) q_308 (hw_10_3 hc0) (ltK rfl) (ltK rfl) rfl ?_
    refine g_iloadn (pc := 44) (i0 := 3) (j := 3) (dK D_FP_emptyRun 23 rfl) rfl rfl ?_
    refine gdE h (fun hi1 h => ?_)
    refine vg_iaload (pc := 45) (j := a3.toNat) (dK D_FP_emptyRun 24 rfl) (hw_4_5 (hw_10_3 hc0)) rfl hi1 rfl ?_
    refine vg_iconst (pc := 46) (dK D_FP_emptyRun 25 rfl) ?_
    refine vg_icmp_ne (pc := 47) (t := 56) (dK D_FP_emptyRun 26 rfl) rfl (g_in _ _ _) (inRk rfl) (fun hc7 => ?_) (fun hc7 => ?_)
    · replace h := ifN h hc7
      refine vg_iconst (pc := 56) (dK D_FP_emptyRun 31 rfl) ?_
      refine g_istoren (pc := 57) (i0 := 2) (ls2 := [(2, V 0), (0, .ref c0), (1, V a1), (3, V a3)]) (dK D_FP_emptyRun 32 rfl) rfl (ltK rfl) rfl ?_
      refine g_iloadn (pc := 58) (i0 := 2) (j := 0) (dK D_FP_emptyRun 33 rfl) rfl rfl ?_
      refine g_iloadn (pc := 59) (i0 := 1) (j := 2) (dK D_FP_emptyRun 34 rfl) rfl rfl ?_
      refine vg_icmp_ne (pc := 60) (t := 69) (dK D_FP_emptyRun 35 rfl) rfl (inRk rfl) ha1 (fun hc3 => ?_) (fun hc3 => ?_)
      · replace h := ifN h hc3
        refine nmE h (fun v2 e_v2 h => ?_)
        refine vg_iinc (pc := 69) (j := 3) (a := a3) (z := 1) (ls2 := [(3, V v2), (2, V 0), (0, .ref c0), (1, V a1)]) (dK D_FP_emptyRun 42 rfl) rfl e_v2 (ltK rfl) rfl ?_
        refine g_goto (pc := 72) (tgt := 26) (dK D_FP_emptyRun 43 rfl) rfl ?_
        refine gL_weak (ls' := [(0, .ref c0), (1, V a1), (2, V 0), (3, V v2)]) (sbc 2 rfl (sbc 3 rfl (sbc 1 rfl (sbc 0 rfl sbn)))) ?_
        replace h := ih _ h
        exact h (inRk rfl) (Vn_in e_v2)
      · replace h := ifP h hc3
        refine g_iloadn (pc := 63) (i0 := 3) (j := 3) (dK D_FP_emptyRun 36 rfl) rfl rfl ?_
        refine g_iloadn (pc := 64) (i0 := 1) (j := 2) (dK D_FP_emptyRun 37 rfl) rfl rfl ?_
        refine vg_isub (pc := 65) (dK D_FP_emptyRun 38 rfl) ?_
        refine vg_iconst (pc := 66) (dK D_FP_emptyRun 39 rfl) ?_
        refine vg_iadd (pc := 67) (dK D_FP_emptyRun 40 rfl) ?_
        refine gtop (x := (wr ((a3 - a1) + 1))) rfl ?_
        exact vg_iretI (pc := 68) (r := (wr ((a3 - a1) + 1))) (dK D_FP_emptyRun 41 rfl) rfl (leK rfl) (leK rfl) (xf hfl) (hr _ (Option.some.inj h).symm (wr_in _))
    · replace h := ifP h hc7
      refine g_iloadn (pc := 50) (i0 := 2) (j := 2) (dK D_FP_emptyRun 27 rfl) rfl rfl ?_
      refine vg_iconst (pc := 51) (dK D_FP_emptyRun 28 rfl) ?_
      refine vg_iadd (pc := 52) (dK D_FP_emptyRun 29 rfl) ?_
      refine g_goto (pc := 53) (tgt := 57) (dK D_FP_emptyRun 30 rfl) rfl ?_
      refine nmE h (fun v4 e_v4 h => ?_)
      refine gtop e_v4 ?_
      refine g_istoren (pc := 57) (i0 := 2) (ls2 := [(2, V v4), (0, .ref c0), (1, V a1), (3, V a3)]) (dK D_FP_emptyRun 32 rfl) rfl (ltK rfl) rfl ?_
      refine g_iloadn (pc := 58) (i0 := 2) (j := 0) (dK D_FP_emptyRun 33 rfl) rfl rfl ?_
      refine g_iloadn (pc := 59) (i0 := 1) (j := 2) (dK D_FP_emptyRun 34 rfl) rfl rfl ?_
      refine vg_icmp_ne (pc := 60) (t := 69) (dK D_FP_emptyRun 35 rfl) rfl (Vn_in e_v4) ha1 (fun hc6 => ?_) (fun hc6 => ?_)
      · replace h := ifN h hc6
        refine nmE h (fun v5 e_v5 h => ?_)
        refine vg_iinc (pc := 69) (j := 3) (a := a3) (z := 1) (ls2 := [(3, V v5), (2, V v4), (0, .ref c0), (1, V a1)]) (dK D_FP_emptyRun 42 rfl) rfl e_v5 (ltK rfl) rfl ?_
        refine g_goto (pc := 72) (tgt := 26) (dK D_FP_emptyRun 43 rfl) rfl ?_
        refine gL_weak (ls' := [(0, .ref c0), (1, V a1), (2, V v4), (3, V v5)]) (sbc 2 rfl (sbc 3 rfl (sbc 1 rfl (sbc 0 rfl sbn)))) ?_
        replace h := ih _ h
        exact h (Vn_in e_v4) (Vn_in e_v5)
      · replace h := ifP h hc6
        refine g_iloadn (pc := 63) (i0 := 3) (j := 3) (dK D_FP_emptyRun 36 rfl) rfl rfl ?_
        refine g_iloadn (pc := 64) (i0 := 1) (j := 2) (dK D_FP_emptyRun 37 rfl) rfl rfl ?_
        refine vg_isub (pc := 65) (dK D_FP_emptyRun 38 rfl) ?_
        refine vg_iconst (pc := 66) (dK D_FP_emptyRun 39 rfl) ?_
        refine vg_iadd (pc := 67) (dK D_FP_emptyRun 40 rfl) ?_
        refine gtop (x := (wr ((a3 - a1) + 1))) rfl ?_
        exact vg_iretI (pc := 68) (r := (wr ((a3 - a1) + 1))) (dK D_FP_emptyRun 41 rfl) rfl (leK rfl) (leK rfl) (xf hfl) (hr _ (Option.some.inj h).symm (wr_in _))
def fn_FP_emptyRun (c0 : Nat) (a1 : Int) (S : St) : Option (Nat × Int) := if a1 < 1 then (some (2, 0)) else (if a1 ≤ 64 then (bnS (lo_FP_emptyRun_26 c0 a1 S FU (0, 1)) (fun p10 => some (0, p10)) fun p9 => some (0, (-1))) else (some (2, 0)))
theorem tf_FP_emptyRun {E : EV} {X : XT} (hfl : X.2.2.2 = false) {c0 : Nat} (hc0 : HC X 10 c0) {a1 : Int} (ha1 : inR a1) {S : St} {q : Nat × Int} (h : fn_FP_emptyRun c0 a1 S = some q) : Ev E M_FP_emptyRun [.ref c0, V a1] (WX X S) 1 6 (KT X q.1 S (KI X q.2 S)) := by
  refine Ev.of pn_FP rfl (leK rfl) ?_
  show Go E M_FP_emptyRun 1 6 0 [(0, .ref c0), (1, V a1)] [] (WX X S) 0 0 (KT X q.1 S (KI X q.2 S))
  unfold fn_FP_emptyRun at h
  refine g_iloadn (pc := 0) (i0 := 1) (j := 1) (dK D_FP_emptyRun 0 rfl) rfl rfl ?_
  refine vg_iconst (pc := 1) (dK D_FP_emptyRun 1 rfl) ?_
  refine vg_icmp_lt (pc := 2) (t := 11) (dK D_FP_emptyRun 2 rfl) rfl ha1 (inRk rfl) (fun hc12 => ?_) (fun hc12 => ?_)
  · replace h := ifP h hc12
    exact vg_throwW hfl (pc := 11) TH_FP_148_318 (dK D_FP_emptyRun 6 rfl) (dK D_FP_emptyRun 7 rfl) (dK D_FP_emptyRun 8 rfl) (dK D_FP_emptyRun 9 rfl) (dK D_FP_emptyRun 10 rfl) rfl (leK rfl) (leK rfl) (leK rfl) (leK rfl) (leK rfl) (by obtain rfl := Option.some.inj h; exact KT_thr (e := 2) (by decide))
  · replace h := ifN h hc12
    refine g_iloadn (pc := 5) (i0 := 1) (j := 1) (dK D_FP_emptyRun 3 rfl) rfl rfl ?_
    refine vg_bipush (pc := 6) (dK D_FP_emptyRun 4 rfl) rfl ?_
    refine vg_icmp_le (pc := 8) (t := 22) (dK D_FP_emptyRun 5 rfl) rfl ha1 (inRk rfl) (fun hc11 => ?_) (fun hc11 => ?_)
    · replace h := ifP h hc11
      refine vg_iconst (pc := 22) (dK D_FP_emptyRun 11 rfl) ?_
      refine g_istoren (pc := 23) (i0 := 2) (ls2 := [(2, V 0), (0, .ref c0), (1, V a1)]) (dK D_FP_emptyRun 12 rfl) rfl (ltK rfl) rfl ?_
      refine vg_iconst (pc := 24) (dK D_FP_emptyRun 13 rfl) ?_
      refine g_istoren (pc := 25) (i0 := 3) (ls2 := [(3, V 1), (2, V 0), (0, .ref c0), (1, V a1)]) (dK D_FP_emptyRun 14 rfl) rfl (ltK rfl) rfl ?_
      refine bnSE h (fun p10 e_p10 h => ?_) (fun p9 e_p9 h => ?_)
      · refine gL_weak (ls' := [(0, .ref c0), (1, V a1), (2, V 0), (3, V 1)]) (sbc 2 rfl (sbc 3 rfl (sbc 1 rfl (sbc 0 rfl sbn)))) ?_
        refine tl_FP_emptyRun_26 hfl hc0 ha1 (fun _ e => slr e) (fun p e hr_p10 => ?_) FU (0, 1) e_p10 (inRk rfl) (inRk rfl)
        have e := Sum.inl.inj e
        subst e
        exact (by obtain rfl := Option.some.inj h; exact KT_ok ⟨rfl, hr_p10, rfl⟩)
      · refine gL_weak (ls' := [(0, .ref c0), (1, V a1), (2, V 0), (3, V 1)]) (sbc 2 rfl (sbc 3 rfl (sbc 1 rfl (sbc 0 rfl sbn)))) ?_
        refine tl_FP_emptyRun_26 hfl hc0 ha1 (fun p e => ?_) (fun _ e => srl e) FU (0, 1) e_p9 (inRk rfl) (inRk rfl)
        have e := Sum.inr.inj e
        subst e
        refine vg_iconst (pc := 75) (dK D_FP_emptyRun 44 rfl) ?_
        exact vg_iretI (pc := 76) (r := (-1)) (dK D_FP_emptyRun 45 rfl) rfl (leK rfl) (leK rfl) (xf hfl) (by obtain rfl := Option.some.inj h; exact KT_ok ⟨rfl, (inRk rfl), rfl⟩)
    · replace h := ifN h hc11
      exact vg_throwW hfl (pc := 11) TH_FP_148_318 (dK D_FP_emptyRun 6 rfl) (dK D_FP_emptyRun 7 rfl) (dK D_FP_emptyRun 8 rfl) (dK D_FP_emptyRun 9 rfl) (dK D_FP_emptyRun 10 rfl) rfl (leK rfl) (leK rfl) (leK rfl) (leK rfl) (leK rfl) (by obtain rfl := Option.some.inj h; exact KT_thr (e := 2) (by decide))
def fn_Law_emptyRun (c0 : Nat) (a1 : Int) (c2 : Nat) (S : St) : Option (Int × St) := bnO (fn_FP_emptyRun c0 a1 S) fun p1 => if p1.1 = 0 then (nm (ul S c2 0 p1.2) fun S2 => some (0, S2)) else (if p1.1 = 2 then (some (1, S)) else none)
theorem tf_Law_emptyRun {E : EV} {X : XT} (hfl : X.2.2.2 = false) {c0 : Nat} (hc0 : HC X 10 c0) {a1 : Int} (ha1 : inR a1) {c2 : Nat} (hc2 : HA X 3 1 c2) {S : St} {q : Int × St} (h : fn_Law_emptyRun c0 a1 c2 S = some q) : EvH E M_Law_emptyRun [.ref c0, V a1, .ref c2] (WX X S) 1 6 (KI X q.1 q.2) := by
  refine EvH.of pn_Law (leK rfl) ?_
  show Go E M_Law_emptyRun 1 6 0 [(0, .ref c0), (1, V a1), (2, .ref c2)] [] (WX X S) 0 0 (KI X q.1 q.2)
  unfold fn_Law_emptyRun at h
  refine g_aloadn (pc := 0) (i0 := 2) (j := 2) (dK D_Law_emptyRun 0 rfl) rfl rfl ?_
  refine vg_iconst (pc := 1) (dK D_Law_emptyRun 1 rfl) ?_
  refine g_aloadn (pc := 2) (i0 := 0) (j := 0) (dK D_Law_emptyRun 2 rfl) rfl rfl ?_
  refine g_iloadn (pc := 3) (i0 := 1) (j := 1) (dK D_Law_emptyRun 3 rfl) rfl rfl ?_
  refine bnE h (fun p1 e_p1 h => ?_)
  refine vg_cVX hfl (pc := 4) (As := [V a1]) (rest := [V 0, .ref c2]) (mc' := 1) (ms' := 6) (dK D_Law_emptyRun 4 rfl) K_Law_115 (fitK rfl) (ltK rfl) hc0 rfl (leK rfl) (leK rfl) (leK rfl) (tf_FP_emptyRun hfl hc0 ha1 e_p1) (kxT hfl (fun he3 => kxI hfl (fun h_p1 => ?_)) (fun he3 => ?_))
  · replace h := ifP h he3
    refine vg_i2l (pc := 7) (dK D_Law_emptyRun 5 rfl) h_p1 ?_
    refine nmE h (fun S2 e_S2 h => ?_)
    refine vg_lastore (pc := 8) (z := p1.2) (dK D_Law_emptyRun 6 rfl) hc2 rfl ⟨by decide, by decide⟩ rfl e_S2 ?_
    refine g_goto (pc := 9) (tgt := 15) (dK D_Law_emptyRun 7 rfl) rfl ?_
    refine vg_iconst (pc := 15) (dK D_Law_emptyRun 11 rfl) ?_
    exact vg_iretI (pc := 16) (r := 0) (dK D_Law_emptyRun 12 rfl) rfl (leK rfl) (leK rfl) (xf hfl) (by obtain rfl := Option.some.inj h; exact ⟨rfl, (inRk rfl), rfl⟩)
  · replace h := ifN h he3
    by_cases hq4 : p1.1 = 2
    · have h := ifP h hq4
      rw [hq4]
      exact ⟨_, CT_Law_emptyRun_4_2, (by obtain rfl := Option.some.inj h; exact ⟨rfl, (inRk rfl), rfl⟩)⟩
    · replace h := ifN h hq4
      exact nomatch h
def lb_FP_quarterPrice_15 (c0 : Nat) (c1 : Nat) (S : St) (go : Int × Int → Option (Int)) (a2 : Int) (a3 : Int) : Option (Int) := if (g S c1 7) ≤ a3 then (some a2) else (if 0 ≤ a3 ∧ a3 < 40 then (if (g S (tgt c1 6) a3.toNat) = 0 then (nm (wr (a3 + 1)) fun v2 => go (a2, v2)) else (nm (wr (a2 + (g S (tgt c1 0) a3.toNat))) fun v3 => nm (wr (a3 + 1)) fun v4 => go (v3, v4))) else none)
def lo_FP_quarterPrice_15 (c0 : Nat) (c1 : Nat) (S : St) : Nat → Int × Int → Option (Int) := lp fun go p => lb_FP_quarterPrice_15 c0 c1 S go p.1 p.2
theorem tl_FP_quarterPrice_15 {E : EV} {X : XT} (hfl : X.2.2.2 = false) {c0 : Nat} (hc0 : HC X 10 c0) {c1 : Nat} (hc1 : HC X 0 c1) {S : St} {K : RK → PS → Prop} {q : Int} (hx : inR q → Go E M_FP_quarterPrice 1 6 47 [(0, .ref c0), (2, V q)] [] (WX X S) 0 0 K) : ∀ n a, lo_FP_quarterPrice_15 c0 c1 S n a = some q → inR a.1 → inR a.2 → Go E M_FP_quarterPrice 1 6 15 [(0, .ref c0), (1, .ref c1), (2, V a.1), (3, V a.2)] [] (WX X S) 0 0 K := by
  refine lp_ind (P := fun a : Int × Int => inR a.1 → inR a.2 → Go E M_FP_quarterPrice 1 6 15 [(0, .ref c0), (1, .ref c1), (2, V a.1), (3, V a.2)] [] (WX X S) 0 0 K) (fun go ih a h => ?_)
  obtain ⟨a2, a3⟩ := a
  intro ha2 ha3
  show Go E M_FP_quarterPrice 1 6 15 [(0, .ref c0), (1, .ref c1), (2, V a2), (3, V a3)] [] (WX X S) 0 0 K
  replace h : lb_FP_quarterPrice_15 c0 c1 S go a2 a3 = some q := h
  unfold lb_FP_quarterPrice_15 at h
  refine g_iloadn (pc := 15) (i0 := 3) (j := 3) (dK D_FP_quarterPrice 9 rfl) rfl rfl ?_
  refine g_aloadn (pc := 16) (i0 := 1) (j := 1) (dK D_FP_quarterPrice 10 rfl) rfl rfl ?_
  refine vg_getI (pc := 17) (ci := 0) (f := 7) (dK D_FP_quarterPrice 11 rfl) q_109 hc1 (ltK rfl) (ltK rfl) rfl ?_
  refine vg_icmp_ge (pc := 20) (t := 47) (dK D_FP_quarterPrice 12 rfl) rfl ha3 (g_in _ _ _) (fun hc6 => ?_) (fun hc6 => ?_)
  · replace h := ifP h hc6
    obtain rfl := Option.some.inj h
    refine gL_weak (ls' := [(0, .ref c0), (2, V a2)]) (sbc 0 rfl (sbc 2 rfl sbn)) ?_
    exact hx ha2
  · replace h := ifN h hc6
    refine g_aloadn (pc := 23) (i0 := 1) (j := 1) (dK D_FP_quarterPrice 13 rfl) rfl rfl ?_
    refine vg_getA (pc := 24) (ci := 0) (f := 6) (dK D_FP_quarterPrice 14 rfl) q_103 hc1 (ltK rfl) (ltK rfl) rfl ?_
    refine g_iloadn (pc := 27) (i0 := 3) (j := 3) (dK D_FP_quarterPrice 15 rfl) rfl rfl ?_
    refine gdE h (fun hi1 h => ?_)
    refine vg_iaload (pc := 28) (j := a3.toNat) (dK D_FP_quarterPrice 16 rfl) (hw_0_6 hc1) rfl hi1 rfl ?_
    refine vg_if_eq (pc := 29) (t := 41) (dK D_FP_quarterPrice 17 rfl) rfl (g_in _ _ _) (fun hc5 => ?_) (fun hc5 => ?_)
    · replace h := ifP h hc5
      refine nmE h (fun v2 e_v2 h => ?_)
      refine vg_iinc (pc := 41) (j := 3) (a := a3) (z := 1) (ls2 := [(3, V v2), (0, .ref c0), (1, .ref c1), (2, V a2)]) (dK D_FP_quarterPrice 25 rfl) rfl e_v2 (ltK rfl) rfl ?_
      refine g_goto (pc := 44) (tgt := 15) (dK D_FP_quarterPrice 26 rfl) rfl ?_
      refine gL_weak (ls' := [(0, .ref c0), (1, .ref c1), (2, V a2), (3, V v2)]) (sbc 1 rfl (sbc 2 rfl (sbc 3 rfl (sbc 0 rfl sbn)))) ?_
      replace h := ih _ h
      exact h ha2 (Vn_in e_v2)
    · replace h := ifN h hc5
      refine g_iloadn (pc := 32) (i0 := 2) (j := 2) (dK D_FP_quarterPrice 18 rfl) rfl rfl ?_
      refine g_aloadn (pc := 33) (i0 := 1) (j := 1) (dK D_FP_quarterPrice 19 rfl) rfl rfl ?_
      refine vg_getA (pc := 34) (ci := 0) (f := 0) (dK D_FP_quarterPrice 20 rfl) q_79 hc1 (ltK rfl) (ltK rfl) rfl ?_
      refine g_iloadn (pc := 37) (i0 := 3) (j := 3) (dK D_FP_quarterPrice 21 rfl) rfl rfl ?_
      refine vg_iaload (pc := 38) (j := a3.toNat) (dK D_FP_quarterPrice 22 rfl) (hw_0_0 hc1) rfl hi1 rfl ?_
      refine vg_iadd (pc := 39) (dK D_FP_quarterPrice 23 rfl) ?_
      refine nmE h (fun v3 e_v3 h => ?_)
      refine gtop e_v3 ?_
      refine g_istoren (pc := 40) (i0 := 2) (ls2 := [(2, V v3), (0, .ref c0), (1, .ref c1), (3, V a3)]) (dK D_FP_quarterPrice 24 rfl) rfl (ltK rfl) rfl ?_
      refine nmE h (fun v4 e_v4 h => ?_)
      refine vg_iinc (pc := 41) (j := 3) (a := a3) (z := 1) (ls2 := [(3, V v4), (2, V v3), (0, .ref c0), (1, .ref c1)]) (dK D_FP_quarterPrice 25 rfl) rfl e_v4 (ltK rfl) rfl ?_
      refine g_goto (pc := 44) (tgt := 15) (dK D_FP_quarterPrice 26 rfl) rfl ?_
      refine gL_weak (ls' := [(0, .ref c0), (1, .ref c1), (2, V v3), (3, V v4)]) (sbc 2 rfl (sbc 3 rfl (sbc 1 rfl (sbc 0 rfl sbn)))) ?_
      replace h := ih _ h
      exact h (Vn_in e_v3) (Vn_in e_v4)
def fn_FP_quarterPrice (c0 : Nat) (S : St) : Option (Nat × UInt64) := bnO (lo_FP_quarterPrice_15 c0 (tgt (tgt (tgt c0 3) 0) 0) S FU (0, 0)) fun p7 => if p7 = 0 then (some (3, 0)) else (bnO (fn_FP_revenue c0 S) fun p8 => if ((FP.ddiv (i_d p8) (i_d p7)) &&& 0x7fffffffffffffff) ≤ 0x7ff0000000000000 then (some (0, (FP.ddiv (i_d p8) (i_d p7)))) else none)
theorem tf_FP_quarterPrice {E : EV} {X : XT} (hfl : X.2.2.2 = false) {c0 : Nat} (hc0 : HC X 10 c0) {S : St} {q : Nat × UInt64} (h : fn_FP_quarterPrice c0 S = some q) : Ev E M_FP_quarterPrice [.ref c0] (WX X S) 1 6 (KT X q.1 S (KD X q.2 S)) := by
  refine Ev.of pn_FP rfl (leK rfl) ?_
  show Go E M_FP_quarterPrice 1 6 0 [(0, .ref c0)] [] (WX X S) 0 0 (KT X q.1 S (KD X q.2 S))
  unfold fn_FP_quarterPrice at h
  refine g_aloadn (pc := 0) (i0 := 0) (j := 0) (dK D_FP_quarterPrice 0 rfl) rfl rfl ?_
  refine vg_getO (pc := 1) (ci := 10) (f := 3) (dK D_FP_quarterPrice 1 rfl) q_425 hc0 (ltK rfl) (ltK rfl) rfl ?_
  refine vg_getO (pc := 4) (ci := 4) (f := 0) (dK D_FP_quarterPrice 2 rfl) q_292 (hw_10_3 hc0) (ltK rfl) (ltK rfl) rfl ?_
  refine vg_getO (pc := 7) (ci := 8) (f := 0) (dK D_FP_quarterPrice 3 rfl) q_224 (hw_4_0 (hw_10_3 hc0)) (ltK rfl) (ltK rfl) rfl ?_
  refine g_astoren (pc := 10) (i0 := 1) (ls2 := [(1, .ref (tgt (tgt (tgt c0 3) 0) 0)), (0, .ref c0)]) (dK D_FP_quarterPrice 4 rfl) rfl (ltK rfl) rfl ?_
  refine vg_iconst (pc := 11) (dK D_FP_quarterPrice 5 rfl) ?_
  refine g_istoren (pc := 12) (i0 := 2) (ls2 := [(2, V 0), (1, .ref (tgt (tgt (tgt c0 3) 0) 0)), (0, .ref c0)]) (dK D_FP_quarterPrice 6 rfl) rfl (ltK rfl) rfl ?_
  refine vg_iconst (pc := 13) (dK D_FP_quarterPrice 7 rfl) ?_
  refine g_istoren (pc := 14) (i0 := 3) (ls2 := [(3, V 0), (2, V 0), (1, .ref (tgt (tgt (tgt c0 3) 0) 0)), (0, .ref c0)]) (dK D_FP_quarterPrice 8 rfl) rfl (ltK rfl) rfl ?_
  refine bnE h (fun p7 e_p7 h => ?_)
  refine gL_weak (ls' := [(0, .ref c0), (1, .ref (tgt (tgt (tgt c0 3) 0) 0)), (2, V 0), (3, V 0)]) (sbc 3 rfl (sbc 2 rfl (sbc 1 rfl (sbc 0 rfl sbn)))) ?_
  refine tl_FP_quarterPrice_15 hfl hc0 (hw_8_0 (hw_4_0 (hw_10_3 hc0))) (fun hx2_p7 => ?_) FU (0, 0) e_p7 (inRk rfl) (inRk rfl)
  refine g_iloadn (pc := 47) (i0 := 2) (j := 1) (dK D_FP_quarterPrice 27 rfl) rfl rfl ?_
  refine vg_if_ne (pc := 48) (t := 62) (dK D_FP_quarterPrice 28 rfl) rfl hx2_p7 (fun hc10 => ?_) (fun hc10 => ?_)
  · replace h := ifN h hc10
    refine g_aloadn (pc := 62) (i0 := 0) (j := 0) (dK D_FP_quarterPrice 34 rfl) rfl rfl ?_
    refine bnE h (fun p8 e_p8 h => ?_)
    refine vg_cV (pc := 63) (As := []) (rest := []) (mc' := 0) (ms' := 0) (dK D_FP_quarterPrice 35 rfl) K_FP_348 (fitK rfl) (ltK rfl) hc0 rfl (leK rfl) (leK rfl) (leK rfl) (tf_FP_revenue hc0 e_p8) (kcI (fun h_p8 => ?_))
    refine vg_i2d (pc := 66) (dK D_FP_quarterPrice 36 rfl) ?_
    refine g_iloadn (pc := 67) (i0 := 2) (j := 1) (dK D_FP_quarterPrice 37 rfl) rfl rfl ?_
    refine vg_i2d (pc := 68) (dK D_FP_quarterPrice 38 rfl) ?_
    refine gdE h (fun hd9 h => ?_)
    refine g_ddiv (pc := 69) (dK D_FP_quarterPrice 39 rfl) hd9 ?_
    exact g_dreturn (pc := 70) (dK D_FP_quarterPrice 40 rfl) rfl (leK rfl) (leK rfl) (xf hfl) (by obtain rfl := Option.some.inj h; exact KT_ok ⟨rfl, rfl⟩)
  · replace h := ifP h hc10
    exact vg_throwW hfl (pc := 51) TH_FP_343_345 (dK D_FP_quarterPrice 29 rfl) (dK D_FP_quarterPrice 30 rfl) (dK D_FP_quarterPrice 31 rfl) (dK D_FP_quarterPrice 32 rfl) (dK D_FP_quarterPrice 33 rfl) rfl (leK rfl) (leK rfl) (leK rfl) (leK rfl) (leK rfl) (by obtain rfl := Option.some.inj h; exact KT_thr (e := 3) (by decide))
def fn_Law_quarterPrice (c0 : Nat) (c1 : Nat) (S : St) : Option (Int × St) := bnO (fn_FP_quarterPrice c0 S) fun p1 => if p1.1 = 0 then (nm (uD S c1 0 p1.2) fun S2 => some (0, S2)) else (if p1.1 = 3 then (some (1, S)) else none)
theorem tf_Law_quarterPrice {E : EV} {X : XT} (hfl : X.2.2.2 = false) {c0 : Nat} (hc0 : HC X 10 c0) {c1 : Nat} (hc1 : HA X 4 1 c1) {S : St} {q : Int × St} (h : fn_Law_quarterPrice c0 c1 S = some q) : EvH E M_Law_quarterPrice [.ref c0, .ref c1] (WX X S) 1 6 (KI X q.1 q.2) := by
  refine EvH.of pn_Law (leK rfl) ?_
  show Go E M_Law_quarterPrice 1 6 0 [(0, .ref c0), (1, .ref c1)] [] (WX X S) 0 0 (KI X q.1 q.2)
  unfold fn_Law_quarterPrice at h
  refine g_aloadn (pc := 0) (i0 := 1) (j := 1) (dK D_Law_quarterPrice 0 rfl) rfl rfl ?_
  refine vg_iconst (pc := 1) (dK D_Law_quarterPrice 1 rfl) ?_
  refine g_aloadn (pc := 2) (i0 := 0) (j := 0) (dK D_Law_quarterPrice 2 rfl) rfl rfl ?_
  refine bnE h (fun p1 e_p1 h => ?_)
  refine vg_cVX hfl (pc := 3) (As := []) (rest := [V 0, .ref c1]) (mc' := 1) (ms' := 6) (dK D_Law_quarterPrice 3 rfl) K_Law_118 (fitK rfl) (ltK rfl) hc0 rfl (leK rfl) (leK rfl) (leK rfl) (tf_FP_quarterPrice hfl hc0 e_p1) (kxT hfl (fun he3 => kxD hfl ?_) (fun he3 => ?_))
  · replace h := ifP h he3
    refine nmE h (fun S2 e_S2 h => ?_)
    refine vg_dastore (pc := 6) (z := p1.2) (dK D_Law_quarterPrice 4 rfl) hc1 rfl ⟨by decide, by decide⟩ rfl e_S2 ?_
    refine g_goto (pc := 7) (tgt := 13) (dK D_Law_quarterPrice 5 rfl) rfl ?_
    refine vg_iconst (pc := 13) (dK D_Law_quarterPrice 9 rfl) ?_
    exact vg_iretI (pc := 14) (r := 0) (dK D_Law_quarterPrice 10 rfl) rfl (leK rfl) (leK rfl) (xf hfl) (by obtain rfl := Option.some.inj h; exact ⟨rfl, (inRk rfl), rfl⟩)
  · replace h := ifN h he3
    by_cases hq4 : p1.1 = 3
    · have h := ifP h hq4
      rw [hq4]
      exact ⟨_, CT_Law_quarterPrice_3_3, (by obtain rfl := Option.some.inj h; exact ⟨rfl, (inRk rfl), rfl⟩)⟩
    · replace h := ifN h hq4
      exact nomatch h
def fn_Bytes_addItem (c0 : Nat) (a1 : Int) (a2 : Int) (S : St) : Option (St) := if (g S c0 1) ≤ 0 then (bnO (fn_Bytes_addByte c0 a1 S) fun p1 => if a2 < 10 then (nm (wr (48 + (a2.tmod 10))) fun v2 => bnO (fn_Bytes_addByte c0 v2 p1) fun p3 => some p3) else (nm (wr (48 + (a2.tdiv 10))) fun v4 => bnO (fn_Bytes_addByte c0 v4 p1) fun p5 => nm (wr (48 + (a2.tmod 10))) fun v6 => bnO (fn_Bytes_addByte c0 v6 p5) fun p7 => some p7)) else (bnO (fn_Bytes_addByte c0 32 S) fun p9 => bnO (fn_Bytes_addByte c0 a1 p9) fun p10 => if a2 < 10 then (nm (wr (48 + (a2.tmod 10))) fun v11 => bnO (fn_Bytes_addByte c0 v11 p10) fun p12 => some p12) else (nm (wr (48 + (a2.tdiv 10))) fun v13 => bnO (fn_Bytes_addByte c0 v13 p10) fun p14 => nm (wr (48 + (a2.tmod 10))) fun v15 => bnO (fn_Bytes_addByte c0 v15 p14) fun p16 => some p16))
theorem tf_Bytes_addItem {E : EV} {X : XT} {c0 : Nat} (hc0 : HC X 1 c0) {a1 : Int} (ha1 : inR a1) {a2 : Int} (ha2 : inR a2) {S : St} {q : St} (h : fn_Bytes_addItem c0 a1 a2 S = some q) : Ev E M_Bytes_addItem [.ref c0, V a1, V a2] (WX X S) 0 0 (KU X q) := by
  refine Ev.of pn_Bytes rfl (leK rfl) ?_
  show Go E M_Bytes_addItem 0 0 0 [(0, .ref c0), (1, V a1), (2, V a2)] [] (WX X S) 0 0 (KU X q)
  unfold fn_Bytes_addItem at h
  refine g_aloadn (pc := 0) (i0 := 0) (j := 0) (dK D_Bytes_addItem 0 rfl) rfl rfl ?_
  refine vg_getI (pc := 1) (ci := 1) (f := 1) (dK D_Bytes_addItem 1 rfl) q_49 hc0 (ltK rfl) (ltK rfl) rfl ?_
  refine vg_if_le (pc := 4) (t := 13) (dK D_Bytes_addItem 2 rfl) rfl (g_in _ _ _) (fun hc18 => ?_) (fun hc18 => ?_)
  · replace h := ifP h hc18
    refine g_aloadn (pc := 13) (i0 := 0) (j := 0) (dK D_Bytes_addItem 6 rfl) rfl rfl ?_
    refine g_iloadn (pc := 14) (i0 := 1) (j := 1) (dK D_Bytes_addItem 7 rfl) rfl rfl ?_
    refine bnE h (fun p1 e_p1 h => ?_)
    refine vg_cV (pc := 15) (As := [V a1]) (rest := []) (mc' := 0) (ms' := 0) (dK D_Bytes_addItem 8 rfl) K_Bytes_19 (fitK rfl) (ltK rfl) hc0 rfl (leK rfl) (leK rfl) (leK rfl) (tf_Bytes_addByte hc0 ha1 e_p1) (kcU ?_)
    refine g_iloadn (pc := 18) (i0 := 2) (j := 2) (dK D_Bytes_addItem 9 rfl) rfl rfl ?_
    refine vg_bipush (pc := 19) (dK D_Bytes_addItem 10 rfl) rfl ?_
    refine vg_icmp_lt (pc := 21) (t := 35) (dK D_Bytes_addItem 11 rfl) rfl ha2 (inRk rfl) (fun hc8 => ?_) (fun hc8 => ?_)
    · replace h := ifP h hc8
      refine g_aloadn (pc := 35) (i0 := 0) (j := 0) (dK D_Bytes_addItem 19 rfl) rfl rfl ?_
      refine vg_bipush (pc := 36) (dK D_Bytes_addItem 20 rfl) rfl ?_
      refine g_iloadn (pc := 38) (i0 := 2) (j := 2) (dK D_Bytes_addItem 21 rfl) rfl rfl ?_
      refine vg_bipush (pc := 39) (dK D_Bytes_addItem 22 rfl) rfl ?_
      refine vg_irem (pc := 41) (dK D_Bytes_addItem 23 rfl) ha2 (inRk rfl) (by decide) ?_
      refine vg_iadd (pc := 42) (dK D_Bytes_addItem 24 rfl) ?_
      refine nmE h (fun v2 e_v2 h => ?_)
      refine gtop e_v2 ?_
      refine bnE h (fun p3 e_p3 h => ?_)
      refine vg_cV (pc := 43) (As := [V v2]) (rest := []) (mc' := 0) (ms' := 0) (dK D_Bytes_addItem 25 rfl) K_Bytes_19 (fitK rfl) (ltK rfl) hc0 rfl (leK rfl) (leK rfl) (leK rfl) (tf_Bytes_addByte hc0 (Vn_in e_v2) e_p3) (kcU ?_)
      exact g_return (pc := 46) (dK D_Bytes_addItem 26 rfl) rfl (leK rfl) (leK rfl) (fun _ => rfl) (by obtain rfl := Option.some.inj h; exact ⟨rfl, rfl⟩)
    · replace h := ifN h hc8
      refine g_aloadn (pc := 24) (i0 := 0) (j := 0) (dK D_Bytes_addItem 12 rfl) rfl rfl ?_
      refine vg_bipush (pc := 25) (dK D_Bytes_addItem 13 rfl) rfl ?_
      refine g_iloadn (pc := 27) (i0 := 2) (j := 2) (dK D_Bytes_addItem 14 rfl) rfl rfl ?_
      refine vg_bipush (pc := 28) (dK D_Bytes_addItem 15 rfl) rfl ?_
      refine vg_idiv (pc := 30) (dK D_Bytes_addItem 16 rfl) ha2 (inRk rfl) (by decide) ?_
      refine vg_iadd (pc := 31) (dK D_Bytes_addItem 17 rfl) ?_
      refine nmE h (fun v4 e_v4 h => ?_)
      refine gtop e_v4 ?_
      refine bnE h (fun p5 e_p5 h => ?_)
      refine vg_cV (pc := 32) (As := [V v4]) (rest := []) (mc' := 0) (ms' := 0) (dK D_Bytes_addItem 18 rfl) K_Bytes_19 (fitK rfl) (ltK rfl) hc0 rfl (leK rfl) (leK rfl) (leK rfl) (tf_Bytes_addByte hc0 (Vn_in e_v4) e_p5) (kcU ?_)
      refine g_aloadn (pc := 35) (i0 := 0) (j := 0) (dK D_Bytes_addItem 19 rfl) rfl rfl ?_
      refine vg_bipush (pc := 36) (dK D_Bytes_addItem 20 rfl) rfl ?_
      refine g_iloadn (pc := 38) (i0 := 2) (j := 2) (dK D_Bytes_addItem 21 rfl) rfl rfl ?_
      refine vg_bipush (pc := 39) (dK D_Bytes_addItem 22 rfl) rfl ?_
      refine vg_irem (pc := 41) (dK D_Bytes_addItem 23 rfl) ha2 (inRk rfl) (by decide) ?_
      refine vg_iadd (pc := 42) (dK D_Bytes_addItem 24 rfl) ?_
      refine nmE h (fun v6 e_v6 h => ?_)
      refine gtop e_v6 ?_
      refine bnE h (fun p7 e_p7 h => ?_)
      refine vg_cV (pc := 43) (As := [V v6]) (rest := []) (mc' := 0) (ms' := 0) (dK D_Bytes_addItem 25 rfl) K_Bytes_19 (fitK rfl) (ltK rfl) hc0 rfl (leK rfl) (leK rfl) (leK rfl) (tf_Bytes_addByte hc0 (Vn_in e_v6) e_p7) (kcU ?_)
      exact g_return (pc := 46) (dK D_Bytes_addItem 26 rfl) rfl (leK rfl) (leK rfl) (fun _ => rfl) (by obtain rfl := Option.some.inj h; exact ⟨rfl, rfl⟩)
  · replace h := ifN h hc18
    refine g_aloadn (pc := 7) (i0 := 0) (j := 0) (dK D_Bytes_addItem 3 rfl) rfl rfl ?_
    refine vg_bipush (pc := 8) (dK D_Bytes_addItem 4 rfl) rfl ?_
    refine bnE h (fun p9 e_p9 h => ?_)
    refine vg_cV (pc := 10) (As := [V 32]) (rest := []) (mc' := 0) (ms' := 0) (dK D_Bytes_addItem 5 rfl) K_Bytes_19 (fitK rfl) (ltK rfl) hc0 rfl (leK rfl) (leK rfl) (leK rfl) (tf_Bytes_addByte hc0 (inRk rfl) e_p9) (kcU ?_)
    refine g_aloadn (pc := 13) (i0 := 0) (j := 0) (dK D_Bytes_addItem 6 rfl) rfl rfl ?_
    refine g_iloadn (pc := 14) (i0 := 1) (j := 1) (dK D_Bytes_addItem 7 rfl) rfl rfl ?_
    refine bnE h (fun p10 e_p10 h => ?_)
    refine vg_cV (pc := 15) (As := [V a1]) (rest := []) (mc' := 0) (ms' := 0) (dK D_Bytes_addItem 8 rfl) K_Bytes_19 (fitK rfl) (ltK rfl) hc0 rfl (leK rfl) (leK rfl) (leK rfl) (tf_Bytes_addByte hc0 ha1 e_p10) (kcU ?_)
    refine g_iloadn (pc := 18) (i0 := 2) (j := 2) (dK D_Bytes_addItem 9 rfl) rfl rfl ?_
    refine vg_bipush (pc := 19) (dK D_Bytes_addItem 10 rfl) rfl ?_
    refine vg_icmp_lt (pc := 21) (t := 35) (dK D_Bytes_addItem 11 rfl) rfl ha2 (inRk rfl) (fun hc17 => ?_) (fun hc17 => ?_)
    · replace h := ifP h hc17
      refine g_aloadn (pc := 35) (i0 := 0) (j := 0) (dK D_Bytes_addItem 19 rfl) rfl rfl ?_
      refine vg_bipush (pc := 36) (dK D_Bytes_addItem 20 rfl) rfl ?_
      refine g_iloadn (pc := 38) (i0 := 2) (j := 2) (dK D_Bytes_addItem 21 rfl) rfl rfl ?_
      refine vg_bipush (pc := 39) (dK D_Bytes_addItem 22 rfl) rfl ?_
      refine vg_irem (pc := 41) (dK D_Bytes_addItem 23 rfl) ha2 (inRk rfl) (by decide) ?_
      refine vg_iadd (pc := 42) (dK D_Bytes_addItem 24 rfl) ?_
      refine nmE h (fun v11 e_v11 h => ?_)
      refine gtop e_v11 ?_
      refine bnE h (fun p12 e_p12 h => ?_)
      refine vg_cV (pc := 43) (As := [V v11]) (rest := []) (mc' := 0) (ms' := 0) (dK D_Bytes_addItem 25 rfl) K_Bytes_19 (fitK rfl) (ltK rfl) hc0 rfl (leK rfl) (leK rfl) (leK rfl) (tf_Bytes_addByte hc0 (Vn_in e_v11) e_p12) (kcU ?_)
      exact g_return (pc := 46) (dK D_Bytes_addItem 26 rfl) rfl (leK rfl) (leK rfl) (fun _ => rfl) (by obtain rfl := Option.some.inj h; exact ⟨rfl, rfl⟩)
    · replace h := ifN h hc17
      refine g_aloadn (pc := 24) (i0 := 0) (j := 0) (dK D_Bytes_addItem 12 rfl) rfl rfl ?_
      refine vg_bipush (pc := 25) (dK D_Bytes_addItem 13 rfl) rfl ?_
      refine g_iloadn (pc := 27) (i0 := 2) (j := 2) (dK D_Bytes_addItem 14 rfl) rfl rfl ?_
      refine vg_bipush (pc := 28) (dK D_Bytes_addItem 15 rfl) rfl ?_
      refine vg_idiv (pc := 30) (dK D_Bytes_addItem 16 rfl) ha2 (inRk rfl) (by decide) ?_
      refine vg_iadd (pc := 31) (dK D_Bytes_addItem 17 rfl) ?_
      refine nmE h (fun v13 e_v13 h => ?_)
      refine gtop e_v13 ?_
      refine bnE h (fun p14 e_p14 h => ?_)
      refine vg_cV (pc := 32) (As := [V v13]) (rest := []) (mc' := 0) (ms' := 0) (dK D_Bytes_addItem 18 rfl) K_Bytes_19 (fitK rfl) (ltK rfl) hc0 rfl (leK rfl) (leK rfl) (leK rfl) (tf_Bytes_addByte hc0 (Vn_in e_v13) e_p14) (kcU ?_)
      refine g_aloadn (pc := 35) (i0 := 0) (j := 0) (dK D_Bytes_addItem 19 rfl) rfl rfl ?_
      refine vg_bipush (pc := 36) (dK D_Bytes_addItem 20 rfl) rfl ?_
      refine g_iloadn (pc := 38) (i0 := 2) (j := 2) (dK D_Bytes_addItem 21 rfl) rfl rfl ?_
      refine vg_bipush (pc := 39) (dK D_Bytes_addItem 22 rfl) rfl ?_
      refine vg_irem (pc := 41) (dK D_Bytes_addItem 23 rfl) ha2 (inRk rfl) (by decide) ?_
      refine vg_iadd (pc := 42) (dK D_Bytes_addItem 24 rfl) ?_
      refine nmE h (fun v15 e_v15 h => ?_)
      refine gtop e_v15 ?_
      refine bnE h (fun p16 e_p16 h => ?_)
      refine vg_cV (pc := 43) (As := [V v15]) (rest := []) (mc' := 0) (ms' := 0) (dK D_Bytes_addItem 25 rfl) K_Bytes_19 (fitK rfl) (ltK rfl) hc0 rfl (leK rfl) (leK rfl) (leK rfl) (tf_Bytes_addByte hc0 (Vn_in e_v15) e_p16) (kcU ?_)
      exact g_return (pc := 46) (dK D_Bytes_addItem 26 rfl) rfl (leK rfl) (leK rfl) (fun _ => rfl) (by obtain rfl := Option.some.inj h; exact ⟨rfl, rfl⟩)
