def lb_Mo_swapPages_2 (c0 : Nat) (a1 : Int) (a2 : Int) (go : Int × St → Option (St)) (a3 : Int) (S : St) : Option (St) := if (g S (tgt c0 0) 1) ≤ a3 then (some S) else (bnO (fn_Mo_ofAd c0 a3 6 S) fun p1 => bnO (fn_Mo_otherOf p1 a1 a2 S) fun p2 => bnO (fn_Mo_setOfAd c0 a3 6 p2 S) fun p3 => nm (wr (a3 + 1)) fun v4 => go (v4, p3))
def lo_Mo_swapPages_2 (c0 : Nat) (a1 : Int) (a2 : Int) : Nat → Int × St → Option (St) := lp fun go p => lb_Mo_swapPages_2 c0 a1 a2 go p.1 p.2
theorem tl_Mo_swapPages_2 {E : EV} {X : XT} {c0 : Nat} (hc0 : HC X 11 c0) {a1 : Int} (ha1 : inR a1) {a2 : Int} (ha2 : inR a2) {K : RK → PS → Prop} {q : St} (hx : Go E M_Mo_swapPages 0 0 37 [(0, .ref c0), (1, V a1), (2, V a2)] [] (WX X q) 0 0 K) : ∀ n a, lo_Mo_swapPages_2 c0 a1 a2 n a = some q → inR a.1 → Go E M_Mo_swapPages 0 0 2 [(0, .ref c0), (1, V a1), (2, V a2), (3, V a.1)] [] (WX X a.2) 0 0 K := by
  refine lp_ind (P := fun a : Int × St => inR a.1 → Go E M_Mo_swapPages 0 0 2 [(0, .ref c0), (1, V a1), (2, V a2), (3, V a.1)] [] (WX X a.2) 0 0 K) (fun go ih a h => ?_)
  obtain ⟨a3, S⟩ := a
  intro ha3
  show Go E M_Mo_swapPages 0 0 2 [(0, .ref c0), (1, V a1), (2, V a2), (3, V a3)] [] (WX X S) 0 0 K
  replace h : lb_Mo_swapPages_2 c0 a1 a2 go a3 S = some q := h
  unfold lb_Mo_swapPages_2 at h
  refine g_iloadn (pc := 2) (i0 := 3) (j := 3) (dK D_Mo_swapPages 2 rfl) rfl rfl ?_
  refine g_aloadn (pc := 3) (i0 := 0) (j := 0) (dK D_Mo_swapPages 3 rfl) rfl rfl ?_
  refine vg_getA (pc := 4) (ci := 11) (f := 0) (dK D_Mo_swapPages 4 rfl) q_1442 hc0 (ltK rfl) (ltK rfl) rfl ?_
  refine vg_iconst (pc := 7) (dK D_Mo_swapPages 5 rfl) ?_
  refine vg_iaload (pc := 8) (j := 1) (dK D_Mo_swapPages 6 rfl) (hw_11_0 hc0) rfl ⟨by decide, by decide⟩ rfl ?_
  refine vg_icmp_ge (pc := 9) (t := 37) (dK D_Mo_swapPages 7 rfl) rfl ha3 (g_in _ _ _) (fun hc5 => ?_) (fun hc5 => ?_)
  · replace h := ifP h hc5
    obtain rfl := Option.some.inj h
    refine gL_weak (ls' := [(0, .ref c0), (1, V a1), (2, V a2)]) (sbc 0 rfl (sbc 1 rfl (sbc 2 rfl sbn))) ?_
    exact hx 
  · replace h := ifN h hc5
    refine g_aloadn (pc := 12) (i0 := 0) (j := 0) (dK D_Mo_swapPages 8 rfl) rfl rfl ?_
    refine g_iloadn (pc := 13) (i0 := 3) (j := 3) (dK D_Mo_swapPages 9 rfl) rfl rfl ?_
    refine vg_bipush (pc := 14) (dK D_Mo_swapPages 10 rfl) rfl ?_
    refine g_aloadn (pc := 16) (i0 := 0) (j := 0) (dK D_Mo_swapPages 11 rfl) rfl rfl ?_
    refine g_iloadn (pc := 17) (i0 := 3) (j := 3) (dK D_Mo_swapPages 12 rfl) rfl rfl ?_
    refine vg_bipush (pc := 18) (dK D_Mo_swapPages 13 rfl) rfl ?_
    refine bnE h (fun p1 e_p1 h => ?_)
    refine vg_cV (pc := 20) (As := [V a3, V 6]) (rest := [V 6, V a3, .ref c0]) (mc' := 0) (ms' := 0) (dK D_Mo_swapPages 14 rfl) K_Mo_82 (fitK rfl) (ltK rfl) hc0 rfl (leK rfl) (leK rfl) (leK rfl) (tf_Mo_ofAd hc0 ha3 (inRk rfl) e_p1) (kcI (fun h_p1 => ?_))
    refine g_iloadn (pc := 23) (i0 := 1) (j := 1) (dK D_Mo_swapPages 15 rfl) rfl rfl ?_
    refine g_iloadn (pc := 24) (i0 := 2) (j := 2) (dK D_Mo_swapPages 16 rfl) rfl rfl ?_
    refine bnE h (fun p2 e_p2 h => ?_)
    refine vg_cS (pc := 25) (As := [V p1, V a1, V a2]) (rest := [V 6, V a3, .ref c0]) (mc' := 0) (ms' := 0) (dK D_Mo_swapPages 17 rfl) K_Mo_220 (fitK rfl) rfl (leK rfl) (leK rfl) (leK rfl) (tf_Mo_otherOf h_p1 ha1 ha2 e_p2) (kcI (fun h_p2 => ?_))
    refine bnE h (fun p3 e_p3 h => ?_)
    refine vg_cV (pc := 28) (As := [V a3, V 6, V p2]) (rest := []) (mc' := 0) (ms' := 0) (dK D_Mo_swapPages 18 rfl) K_Mo_162 (fitK rfl) (ltK rfl) hc0 rfl (leK rfl) (leK rfl) (leK rfl) (tf_Mo_setOfAd hc0 ha3 (inRk rfl) h_p2 e_p3) (kcU ?_)
    refine nmE h (fun v4 e_v4 h => ?_)
    refine vg_iinc (pc := 31) (j := 3) (a := a3) (z := 1) (ls2 := [(3, V v4), (0, .ref c0), (1, V a1), (2, V a2)]) (dK D_Mo_swapPages 19 rfl) rfl e_v4 (ltK rfl) rfl ?_
    refine g_goto (pc := 34) (tgt := 2) (dK D_Mo_swapPages 20 rfl) rfl ?_
    refine gL_weak (ls' := [(0, .ref c0), (1, V a1), (2, V a2), (3, V v4)]) (sbc 1 rfl (sbc 2 rfl (sbc 3 rfl (sbc 0 rfl sbn)))) ?_
    replace h := ih _ h
    exact h (Vn_in e_v4)
def lb_Mo_swapPages_39 (c0 : Nat) (a1 : Int) (a2 : Int) (go : Int × St → Option (St)) (a3 : Int) (S : St) : Option (St) := if (g S (tgt c0 0) 3) ≤ a3 then (some S) else (bnO (fn_Mo_ofStandby c0 a3 1 S) fun p7 => bnO (fn_Mo_otherOf p7 a1 a2 S) fun p8 => bnO (fn_Mo_setStandby c0 a3 p8 S) fun p9 => nm (wr (a3 + 1)) fun v10 => go (v10, p9))
def lo_Mo_swapPages_39 (c0 : Nat) (a1 : Int) (a2 : Int) : Nat → Int × St → Option (St) := lp fun go p => lb_Mo_swapPages_39 c0 a1 a2 go p.1 p.2
theorem tl_Mo_swapPages_39 {E : EV} {X : XT} {c0 : Nat} (hc0 : HC X 11 c0) {a1 : Int} (ha1 : inR a1) {a2 : Int} (ha2 : inR a2) {K : RK → PS → Prop} {q : St} (hx : Go E M_Mo_swapPages 0 0 71 [] [] (WX X q) 0 0 K) : ∀ n a, lo_Mo_swapPages_39 c0 a1 a2 n a = some q → inR a.1 → Go E M_Mo_swapPages 0 0 39 [(0, .ref c0), (1, V a1), (2, V a2), (3, V a.1)] [] (WX X a.2) 0 0 K := by
  refine lp_ind (P := fun a : Int × St => inR a.1 → Go E M_Mo_swapPages 0 0 39 [(0, .ref c0), (1, V a1), (2, V a2), (3, V a.1)] [] (WX X a.2) 0 0 K) (fun go ih a h => ?_)
  obtain ⟨a3, S⟩ := a
  intro ha3
  show Go E M_Mo_swapPages 0 0 39 [(0, .ref c0), (1, V a1), (2, V a2), (3, V a3)] [] (WX X S) 0 0 K
  replace h : lb_Mo_swapPages_39 c0 a1 a2 go a3 S = some q := h
  unfold lb_Mo_swapPages_39 at h
  refine g_iloadn (pc := 39) (i0 := 3) (j := 3) (dK D_Mo_swapPages 23 rfl) rfl rfl ?_
  refine g_aloadn (pc := 40) (i0 := 0) (j := 0) (dK D_Mo_swapPages 24 rfl) rfl rfl ?_
  refine vg_getA (pc := 41) (ci := 11) (f := 0) (dK D_Mo_swapPages 25 rfl) q_1442 hc0 (ltK rfl) (ltK rfl) rfl ?_
  refine vg_iconst (pc := 44) (dK D_Mo_swapPages 26 rfl) ?_
  refine vg_iaload (pc := 45) (j := 3) (dK D_Mo_swapPages 27 rfl) (hw_11_0 hc0) rfl ⟨by decide, by decide⟩ rfl ?_
  refine vg_icmp_ge (pc := 46) (t := 71) (dK D_Mo_swapPages 28 rfl) rfl ha3 (g_in _ _ _) (fun hc11 => ?_) (fun hc11 => ?_)
  · replace h := ifP h hc11
    obtain rfl := Option.some.inj h
    refine gL_weak (ls' := []) sbn ?_
    exact hx 
  · replace h := ifN h hc11
    refine g_aloadn (pc := 49) (i0 := 0) (j := 0) (dK D_Mo_swapPages 29 rfl) rfl rfl ?_
    refine g_iloadn (pc := 50) (i0 := 3) (j := 3) (dK D_Mo_swapPages 30 rfl) rfl rfl ?_
    refine g_aloadn (pc := 51) (i0 := 0) (j := 0) (dK D_Mo_swapPages 31 rfl) rfl rfl ?_
    refine g_iloadn (pc := 52) (i0 := 3) (j := 3) (dK D_Mo_swapPages 32 rfl) rfl rfl ?_
    refine vg_iconst (pc := 53) (dK D_Mo_swapPages 33 rfl) ?_
    refine bnE h (fun p7 e_p7 h => ?_)
    refine vg_cV (pc := 54) (As := [V a3, V 1]) (rest := [V a3, .ref c0]) (mc' := 0) (ms' := 0) (dK D_Mo_swapPages 34 rfl) K_Mo_92 (fitK rfl) (ltK rfl) hc0 rfl (leK rfl) (leK rfl) (leK rfl) (tf_Mo_ofStandby hc0 ha3 (inRk rfl) e_p7) (kcI (fun h_p7 => ?_))
    refine g_iloadn (pc := 57) (i0 := 1) (j := 1) (dK D_Mo_swapPages 35 rfl) rfl rfl ?_
    refine g_iloadn (pc := 58) (i0 := 2) (j := 2) (dK D_Mo_swapPages 36 rfl) rfl rfl ?_
    refine bnE h (fun p8 e_p8 h => ?_)
    refine vg_cS (pc := 59) (As := [V p7, V a1, V a2]) (rest := [V a3, .ref c0]) (mc' := 0) (ms' := 0) (dK D_Mo_swapPages 37 rfl) K_Mo_220 (fitK rfl) rfl (leK rfl) (leK rfl) (leK rfl) (tf_Mo_otherOf h_p7 ha1 ha2 e_p8) (kcI (fun h_p8 => ?_))
    refine bnE h (fun p9 e_p9 h => ?_)
    refine vg_cV (pc := 62) (As := [V a3, V p8]) (rest := []) (mc' := 0) (ms' := 0) (dK D_Mo_swapPages 38 rfl) K_Mo_217 (fitK rfl) (ltK rfl) hc0 rfl (leK rfl) (leK rfl) (leK rfl) (tf_Mo_setStandby hc0 ha3 h_p8 e_p9) (kcU ?_)
    refine nmE h (fun v10 e_v10 h => ?_)
    refine vg_iinc (pc := 65) (j := 3) (a := a3) (z := 1) (ls2 := [(3, V v10), (0, .ref c0), (1, V a1), (2, V a2)]) (dK D_Mo_swapPages 39 rfl) rfl e_v10 (ltK rfl) rfl ?_
    refine g_goto (pc := 68) (tgt := 39) (dK D_Mo_swapPages 40 rfl) rfl ?_
    refine gL_weak (ls' := [(0, .ref c0), (1, V a1), (2, V a2), (3, V v10)]) (sbc 1 rfl (sbc 2 rfl (sbc 3 rfl (sbc 0 rfl sbn)))) ?_
    replace h := ih _ h
    exact h (Vn_in e_v10)
def fn_Mo_swapPages (c0 : Nat) (a1 : Int) (a2 : Int) (S : St) : Option (St) := bnO (lo_Mo_swapPages_2 c0 a1 a2 FU (0, S)) fun p6 => bnO (lo_Mo_swapPages_39 c0 a1 a2 FU (0, p6)) fun p12 => some p12
theorem tf_Mo_swapPages {E : EV} {X : XT} {c0 : Nat} (hc0 : HC X 11 c0) {a1 : Int} (ha1 : inR a1) {a2 : Int} (ha2 : inR a2) {S : St} {q : St} (h : fn_Mo_swapPages c0 a1 a2 S = some q) : Ev E M_Mo_swapPages [.ref c0, V a1, V a2] (WX X S) 0 0 (KU X q) := by
  refine Ev.of pn_Mo rfl (leK rfl) ?_
  show Go E M_Mo_swapPages 0 0 0 [(0, .ref c0), (1, V a1), (2, V a2)] [] (WX X S) 0 0 (KU X q)
  unfold fn_Mo_swapPages at h
  refine vg_iconst (pc := 0) (dK D_Mo_swapPages 0 rfl) ?_
  refine g_istoren (pc := 1) (i0 := 3) (ls2 := [(3, V 0), (0, .ref c0), (1, V a1), (2, V a2)]) (dK D_Mo_swapPages 1 rfl) rfl (ltK rfl) rfl ?_
  refine bnE h (fun p6 e_p6 h => ?_)
  refine gL_weak (ls' := [(0, .ref c0), (1, V a1), (2, V a2), (3, V 0)]) (sbc 1 rfl (sbc 2 rfl (sbc 3 rfl (sbc 0 rfl sbn)))) ?_
  refine tl_Mo_swapPages_2 hc0 ha1 ha2 ?_ FU (0, S) e_p6 (inRk rfl)
  refine vg_iconst (pc := 37) (dK D_Mo_swapPages 21 rfl) ?_
  refine g_istoren (pc := 38) (i0 := 3) (ls2 := [(3, V 0), (0, .ref c0), (1, V a1), (2, V a2)]) (dK D_Mo_swapPages 22 rfl) rfl (ltK rfl) rfl ?_
  refine bnE h (fun p12 e_p12 h => ?_)
  refine gL_weak (ls' := [(0, .ref c0), (1, V a1), (2, V a2), (3, V 0)]) (sbc 1 rfl (sbc 2 rfl (sbc 3 rfl (sbc 0 rfl sbn)))) ?_
  refine tl_Mo_swapPages_39 hc0 ha1 ha2 ?_ FU (0, p6) e_p12 (inRk rfl)
  exact g_return (pc := 71) (dK D_Mo_swapPages 41 rfl) rfl (leK rfl) (leK rfl) (fun _ => rfl) (by obtain rfl := Option.some.inj h; exact ⟨rfl, rfl⟩)
def jf_Mo_flawOn_71 (c0 : Nat) (a1 : Int) (a2 : Int) (S : St) (go : Int × Int → Option (Int)) (a3 : Int) (a4 : Int) (a5 : Int) : Option (Int) := bnO (fn_Mo_ofAd c0 a4 3 S) fun p4 => bnO (fn_Mo_isOnSide a5 p4 S) fun p5 => if p5 = true then (nm (wr (a5.tdiv 2)) fun v7 => bnO (fn_Mo_hasRival c0 a4 v7 S) fun p8 => if p8 = true then (if a3 ≤ 6 then (nm (wr (a4 + 1)) fun v13 => go (a3, v13)) else (nm (wr (a4 + 1)) fun v14 => go (6, v14))) else (if a3 ≤ 1000000 then (nm (wr (a4 + 1)) fun v10 => go (a3, v10)) else (nm (wr (a4 + 1)) fun v11 => go (1000000, v11)))) else (if a3 ≤ 5 then (nm (wr (a4 + 1)) fun v16 => go (a3, v16)) else (nm (wr (a4 + 1)) fun v17 => go (5, v17)))
theorem tj_Mo_flawOn_71 {E : EV} {X : XT} {c0 : Nat} (hc0 : HC X 11 c0) {a1 : Int} (ha1 : inR a1) {a2 : Int} (ha2 : inR a2) {S : St} {K : RK → PS → Prop} {q : Int} (hx : inR q → Go E M_Mo_flawOn 0 0 131 [(3, V q)] [] (WX X S) 0 0 K) {go : Int × Int → Option (Int)} (ih : ∀ a, go a = some q → inR a.1 → inR a.2 → Go E M_Mo_flawOn 0 0 6 [(0, .ref c0), (1, V a1), (2, V a2), (3, V a.1), (4, V a.2)] [] (WX X S) 0 0 K) {a3 : Int} (ha3 : inR a3) {a4 : Int} (ha4 : inR a4) {a5 : Int} (ha5 : inR a5) (h : jf_Mo_flawOn_71 c0 a1 a2 S go a3 a4 a5 = some q) : Go E M_Mo_flawOn 0 0 71 [(0, .ref c0), (1, V a1), (2, V a2), (3, V a3), (4, V a4), (5, V a5)] [] (WX X S) 0 0 K := by
  unfold jf_Mo_flawOn_71 at h
  refine g_iload (pc := 71) (j := 5) (dK D_Mo_flawOn_0 36 rfl) rfl ?_
  refine g_aloadn (pc := 73) (i0 := 0) (j := 0) (dK D_Mo_flawOn_0 37 rfl) rfl rfl ?_
  refine g_iload (pc := 74) (j := 4) (dK D_Mo_flawOn_0 38 rfl) rfl ?_
  refine vg_iconst (pc := 76) (dK D_Mo_flawOn_0 39 rfl) ?_
  refine bnE h (fun p4 e_p4 h => ?_)
  refine vg_cV (pc := 77) (As := [V a4, V 3]) (rest := [V a5]) (mc' := 0) (ms' := 0) (dK D_Mo_flawOn_0 40 rfl) K_Mo_82 (fitK rfl) (ltK rfl) hc0 rfl (leK rfl) (leK rfl) (leK rfl) (tf_Mo_ofAd hc0 ha4 (inRk rfl) e_p4) (kcI (fun h_p4 => ?_))
  refine bnE h (fun p5 e_p5 h => ?_)
  refine vg_cS (pc := 80) (As := [V a5, V p4]) (rest := []) (mc' := 0) (ms' := 0) (dK D_Mo_flawOn_0 41 rfl) K_Mo_115 (fitK rfl) rfl (leK rfl) (leK rfl) (leK rfl) (tf_Mo_isOnSide ha5 h_p4 e_p5) (kcB ?_)
  refine vg_ifB_ne (pc := 83) (b := p5) (t := 90) (dK D_Mo_flawOn_0 42 rfl) rfl (fun hc6 => ?_) (fun hc6 => ?_)
  · replace h := ifP h hc6
    refine g_aloadn (pc := 90) (i0 := 0) (j := 0) (dK D_Mo_flawOn_0 45 rfl) rfl rfl ?_
    refine g_iload (pc := 91) (j := 4) (dK D_Mo_flawOn_0 46 rfl) rfl ?_
    refine g_iload (pc := 93) (j := 5) (dK D_Mo_flawOn_0 47 rfl) rfl ?_
    refine vg_iconst (pc := 95) (dK D_Mo_flawOn_0 48 rfl) ?_
    refine vg_idiv (pc := 96) (dK D_Mo_flawOn_0 49 rfl) ha5 (inRk rfl) (by decide) ?_
    refine nmE h (fun v7 e_v7 h => ?_)
    refine gtop e_v7 ?_
    refine bnE h (fun p8 e_p8 h => ?_)
    refine vg_cV (pc := 97) (As := [V a4, V v7]) (rest := []) (mc' := 0) (ms' := 0) (dK D_Mo_flawOn_1 0 rfl) K_Mo_118 (fitK rfl) (ltK rfl) hc0 rfl (leK rfl) (leK rfl) (leK rfl) (tf_Mo_hasRival hc0 ha4 (Vn_in e_v7) e_p8) (kcB ?_)
    refine vg_ifB_eq (pc := 100) (b := p8) (t := 108) (dK D_Mo_flawOn_1 1 rfl) rfl (fun hc9 => ?_) (fun hc9 => ?_)
    · replace h := ifP h hc9
      refine vg_bipush (pc := 103) (dK D_Mo_flawOn_1 2 rfl) rfl ?_
      refine g_goto (pc := 105) (tgt := 110) (dK D_Mo_flawOn_1 3 rfl) rfl ?_
      refine g_istore (pc := 110) (ls2 := [(6, V 6), (0, .ref c0), (1, V a1), (2, V a2), (3, V a3), (4, V a4), (5, V a5)]) (dK D_Mo_flawOn_1 5 rfl) (ltK rfl) rfl ?_
      refine g_iload (pc := 112) (j := 0) (dK D_Mo_flawOn_1 6 rfl) rfl ?_
      refine g_iloadn (pc := 114) (i0 := 3) (j := 4) (dK D_Mo_flawOn_1 7 rfl) rfl rfl ?_
      refine vg_icmp_ge (pc := 115) (t := 123) (dK D_Mo_flawOn_1 8 rfl) rfl (inRk rfl) ha3 (fun hc15 => ?_) (fun hc15 => ?_)
      · replace h := ifP h hc15
        refine g_iloadn (pc := 123) (i0 := 3) (j := 4) (dK D_Mo_flawOn_1 11 rfl) rfl rfl ?_
        refine g_istoren (pc := 124) (i0 := 3) (ls2 := [(3, V a3), (6, V 6), (0, .ref c0), (1, V a1), (2, V a2), (4, V a4), (5, V a5)]) (dK D_Mo_flawOn_1 12 rfl) rfl (ltK rfl) rfl ?_
        refine nmE h (fun v13 e_v13 h => ?_)
        refine vg_iinc (pc := 125) (j := 5) (a := a4) (z := 1) (ls2 := [(4, V v13), (3, V a3), (6, V 6), (0, .ref c0), (1, V a1), (2, V a2), (5, V a5)]) (dK D_Mo_flawOn_1 13 rfl) rfl e_v13 (ltK rfl) rfl ?_
        refine g_goto (pc := 128) (tgt := 6) (dK D_Mo_flawOn_1 14 rfl) rfl ?_
        refine gL_weak (ls' := [(0, .ref c0), (1, V a1), (2, V a2), (3, V a3), (4, V v13)]) (sbc 3 rfl (sbc 4 rfl (sbc 5 rfl (sbc 1 rfl (sbc 0 rfl sbn))))) ?_
        replace h := ih _ h
        exact h ha3 (Vn_in e_v13)
      · replace h := ifN h hc15
        refine g_iload (pc := 118) (j := 0) (dK D_Mo_flawOn_1 9 rfl) rfl ?_
        refine g_goto (pc := 120) (tgt := 124) (dK D_Mo_flawOn_1 10 rfl) rfl ?_
        refine g_istoren (pc := 124) (i0 := 3) (ls2 := [(3, V 6), (6, V 6), (0, .ref c0), (1, V a1), (2, V a2), (4, V a4), (5, V a5)]) (dK D_Mo_flawOn_1 12 rfl) rfl (ltK rfl) rfl ?_
        refine nmE h (fun v14 e_v14 h => ?_)
        refine vg_iinc (pc := 125) (j := 5) (a := a4) (z := 1) (ls2 := [(4, V v14), (3, V 6), (6, V 6), (0, .ref c0), (1, V a1), (2, V a2), (5, V a5)]) (dK D_Mo_flawOn_1 13 rfl) rfl e_v14 (ltK rfl) rfl ?_
        refine g_goto (pc := 128) (tgt := 6) (dK D_Mo_flawOn_1 14 rfl) rfl ?_
        refine gL_weak (ls' := [(0, .ref c0), (1, V a1), (2, V a2), (3, V 6), (4, V v14)]) (sbc 3 rfl (sbc 4 rfl (sbc 5 rfl (sbc 1 rfl (sbc 0 rfl sbn))))) ?_
        replace h := ih _ h
        exact h (inRk rfl) (Vn_in e_v14)
    · replace h := ifN h hc9
      refine vg_ldc (pc := 108) (y := 1000000) (dK D_Mo_flawOn_1 4 rfl) q_1616 rfl ?_
      refine g_istore (pc := 110) (ls2 := [(6, V 1000000), (0, .ref c0), (1, V a1), (2, V a2), (3, V a3), (4, V a4), (5, V a5)]) (dK D_Mo_flawOn_1 5 rfl) (ltK rfl) rfl ?_
      refine g_iload (pc := 112) (j := 0) (dK D_Mo_flawOn_1 6 rfl) rfl ?_
      refine g_iloadn (pc := 114) (i0 := 3) (j := 4) (dK D_Mo_flawOn_1 7 rfl) rfl rfl ?_
      refine vg_icmp_ge (pc := 115) (t := 123) (dK D_Mo_flawOn_1 8 rfl) rfl (inRk rfl) ha3 (fun hc12 => ?_) (fun hc12 => ?_)
      · replace h := ifP h hc12
        refine g_iloadn (pc := 123) (i0 := 3) (j := 4) (dK D_Mo_flawOn_1 11 rfl) rfl rfl ?_
        refine g_istoren (pc := 124) (i0 := 3) (ls2 := [(3, V a3), (6, V 1000000), (0, .ref c0), (1, V a1), (2, V a2), (4, V a4), (5, V a5)]) (dK D_Mo_flawOn_1 12 rfl) rfl (ltK rfl) rfl ?_
        refine nmE h (fun v10 e_v10 h => ?_)
        refine vg_iinc (pc := 125) (j := 5) (a := a4) (z := 1) (ls2 := [(4, V v10), (3, V a3), (6, V 1000000), (0, .ref c0), (1, V a1), (2, V a2), (5, V a5)]) (dK D_Mo_flawOn_1 13 rfl) rfl e_v10 (ltK rfl) rfl ?_
        refine g_goto (pc := 128) (tgt := 6) (dK D_Mo_flawOn_1 14 rfl) rfl ?_
        refine gL_weak (ls' := [(0, .ref c0), (1, V a1), (2, V a2), (3, V a3), (4, V v10)]) (sbc 3 rfl (sbc 4 rfl (sbc 5 rfl (sbc 1 rfl (sbc 0 rfl sbn))))) ?_
        replace h := ih _ h
        exact h ha3 (Vn_in e_v10)
      · replace h := ifN h hc12
        refine g_iload (pc := 118) (j := 0) (dK D_Mo_flawOn_1 9 rfl) rfl ?_
        refine g_goto (pc := 120) (tgt := 124) (dK D_Mo_flawOn_1 10 rfl) rfl ?_
        refine g_istoren (pc := 124) (i0 := 3) (ls2 := [(3, V 1000000), (6, V 1000000), (0, .ref c0), (1, V a1), (2, V a2), (4, V a4), (5, V a5)]) (dK D_Mo_flawOn_1 12 rfl) rfl (ltK rfl) rfl ?_
        refine nmE h (fun v11 e_v11 h => ?_)
        refine vg_iinc (pc := 125) (j := 5) (a := a4) (z := 1) (ls2 := [(4, V v11), (3, V 1000000), (6, V 1000000), (0, .ref c0), (1, V a1), (2, V a2), (5, V a5)]) (dK D_Mo_flawOn_1 13 rfl) rfl e_v11 (ltK rfl) rfl ?_
        refine g_goto (pc := 128) (tgt := 6) (dK D_Mo_flawOn_1 14 rfl) rfl ?_
        refine gL_weak (ls' := [(0, .ref c0), (1, V a1), (2, V a2), (3, V 1000000), (4, V v11)]) (sbc 3 rfl (sbc 4 rfl (sbc 5 rfl (sbc 1 rfl (sbc 0 rfl sbn))))) ?_
        replace h := ih _ h
        exact h (inRk rfl) (Vn_in e_v11)
  · replace h := ifN h hc6
    refine vg_iconst (pc := 86) (dK D_Mo_flawOn_0 43 rfl) ?_
    refine g_goto (pc := 87) (tgt := 110) (dK D_Mo_flawOn_0 44 rfl) rfl ?_
    refine g_istore (pc := 110) (ls2 := [(6, V 5), (0, .ref c0), (1, V a1), (2, V a2), (3, V a3), (4, V a4), (5, V a5)]) (dK D_Mo_flawOn_1 5 rfl) (ltK rfl) rfl ?_
    refine g_iload (pc := 112) (j := 0) (dK D_Mo_flawOn_1 6 rfl) rfl ?_
    refine g_iloadn (pc := 114) (i0 := 3) (j := 4) (dK D_Mo_flawOn_1 7 rfl) rfl rfl ?_
    refine vg_icmp_ge (pc := 115) (t := 123) (dK D_Mo_flawOn_1 8 rfl) rfl (inRk rfl) ha3 (fun hc18 => ?_) (fun hc18 => ?_)
    · replace h := ifP h hc18
      refine g_iloadn (pc := 123) (i0 := 3) (j := 4) (dK D_Mo_flawOn_1 11 rfl) rfl rfl ?_
      refine g_istoren (pc := 124) (i0 := 3) (ls2 := [(3, V a3), (6, V 5), (0, .ref c0), (1, V a1), (2, V a2), (4, V a4), (5, V a5)]) (dK D_Mo_flawOn_1 12 rfl) rfl (ltK rfl) rfl ?_
      refine nmE h (fun v16 e_v16 h => ?_)
      refine vg_iinc (pc := 125) (j := 5) (a := a4) (z := 1) (ls2 := [(4, V v16), (3, V a3), (6, V 5), (0, .ref c0), (1, V a1), (2, V a2), (5, V a5)]) (dK D_Mo_flawOn_1 13 rfl) rfl e_v16 (ltK rfl) rfl ?_
      refine g_goto (pc := 128) (tgt := 6) (dK D_Mo_flawOn_1 14 rfl) rfl ?_
      refine gL_weak (ls' := [(0, .ref c0), (1, V a1), (2, V a2), (3, V a3), (4, V v16)]) (sbc 3 rfl (sbc 4 rfl (sbc 5 rfl (sbc 1 rfl (sbc 0 rfl sbn))))) ?_
      replace h := ih _ h
      exact h ha3 (Vn_in e_v16)
    · replace h := ifN h hc18
      refine g_iload (pc := 118) (j := 0) (dK D_Mo_flawOn_1 9 rfl) rfl ?_
      refine g_goto (pc := 120) (tgt := 124) (dK D_Mo_flawOn_1 10 rfl) rfl ?_
      refine g_istoren (pc := 124) (i0 := 3) (ls2 := [(3, V 5), (6, V 5), (0, .ref c0), (1, V a1), (2, V a2), (4, V a4), (5, V a5)]) (dK D_Mo_flawOn_1 12 rfl) rfl (ltK rfl) rfl ?_
      refine nmE h (fun v17 e_v17 h => ?_)
      refine vg_iinc (pc := 125) (j := 5) (a := a4) (z := 1) (ls2 := [(4, V v17), (3, V 5), (6, V 5), (0, .ref c0), (1, V a1), (2, V a2), (5, V a5)]) (dK D_Mo_flawOn_1 13 rfl) rfl e_v17 (ltK rfl) rfl ?_
      refine g_goto (pc := 128) (tgt := 6) (dK D_Mo_flawOn_1 14 rfl) rfl ?_
      refine gL_weak (ls' := [(0, .ref c0), (1, V a1), (2, V a2), (3, V 5), (4, V v17)]) (sbc 3 rfl (sbc 4 rfl (sbc 5 rfl (sbc 1 rfl (sbc 0 rfl sbn))))) ?_
      replace h := ih _ h
      exact h (inRk rfl) (Vn_in e_v17)
def lb_Mo_flawOn_6 (c0 : Nat) (a1 : Int) (a2 : Int) (S : St) (go : Int × Int → Option (Int)) (a3 : Int) (a4 : Int) : Option (Int) := if (g S (tgt c0 0) 1) ≤ a4 then (some a3) else (bnO (fn_Mo_ofAd c0 a4 6 S) fun p1 => if p1 = 0 then (nm (wr (a4 + 1)) fun v2 => go (a3, v2)) else (if p1 = a1 then (bnO (fn_Mo_ofAd c0 a4 2 S) fun p3 => if p3 = 1 then (bnO (fn_Mo_hasColor c0 p1 S) fun p19 => if p19 = true then (jf_Mo_flawOn_71 c0 a1 a2 S go a3 a4 p1) else (if a3 ≤ 4 then (nm (wr (a4 + 1)) fun v21 => go (a3, v21)) else (nm (wr (a4 + 1)) fun v22 => go (4, v22)))) else (jf_Mo_flawOn_71 c0 a1 a2 S go a3 a4 p1)) else (if p1 = a2 then (bnO (fn_Mo_ofAd c0 a4 2 S) fun p25 => if p25 = 1 then (bnO (fn_Mo_hasColor c0 p1 S) fun p26 => if p26 = true then (jf_Mo_flawOn_71 c0 a1 a2 S go a3 a4 p1) else (if a3 ≤ 4 then (nm (wr (a4 + 1)) fun v28 => go (a3, v28)) else (nm (wr (a4 + 1)) fun v29 => go (4, v29)))) else (jf_Mo_flawOn_71 c0 a1 a2 S go a3 a4 p1)) else (nm (wr (a4 + 1)) fun v32 => go (a3, v32)))))
def lo_Mo_flawOn_6 (c0 : Nat) (a1 : Int) (a2 : Int) (S : St) : Nat → Int × Int → Option (Int) := lp fun go p => lb_Mo_flawOn_6 c0 a1 a2 S go p.1 p.2
theorem tl_Mo_flawOn_6 {E : EV} {X : XT} {c0 : Nat} (hc0 : HC X 11 c0) {a1 : Int} (ha1 : inR a1) {a2 : Int} (ha2 : inR a2) {S : St} {K : RK → PS → Prop} {q : Int} (hx : inR q → Go E M_Mo_flawOn 0 0 131 [(3, V q)] [] (WX X S) 0 0 K) : ∀ n a, lo_Mo_flawOn_6 c0 a1 a2 S n a = some q → inR a.1 → inR a.2 → Go E M_Mo_flawOn 0 0 6 [(0, .ref c0), (1, V a1), (2, V a2), (3, V a.1), (4, V a.2)] [] (WX X S) 0 0 K := by
  refine lp_ind (P := fun a : Int × Int => inR a.1 → inR a.2 → Go E M_Mo_flawOn 0 0 6 [(0, .ref c0), (1, V a1), (2, V a2), (3, V a.1), (4, V a.2)] [] (WX X S) 0 0 K) (fun go ih a h => ?_)
  obtain ⟨a3, a4⟩ := a
  intro ha3 ha4
  show Go E M_Mo_flawOn 0 0 6 [(0, .ref c0), (1, V a1), (2, V a2), (3, V a3), (4, V a4)] [] (WX X S) 0 0 K
  replace h : lb_Mo_flawOn_6 c0 a1 a2 S go a3 a4 = some q := h
  unfold lb_Mo_flawOn_6 at h
  refine g_iload (pc := 6) (j := 4) (dK D_Mo_flawOn_0 4 rfl) rfl ?_
  refine g_aloadn (pc := 8) (i0 := 0) (j := 0) (dK D_Mo_flawOn_0 5 rfl) rfl rfl ?_
  refine vg_getA (pc := 9) (ci := 11) (f := 0) (dK D_Mo_flawOn_0 6 rfl) q_1442 hc0 (ltK rfl) (ltK rfl) rfl ?_
  refine vg_iconst (pc := 12) (dK D_Mo_flawOn_0 7 rfl) ?_
  refine vg_iaload (pc := 13) (j := 1) (dK D_Mo_flawOn_0 8 rfl) (hw_11_0 hc0) rfl ⟨by decide, by decide⟩ rfl ?_
  refine vg_icmp_ge (pc := 14) (t := 131) (dK D_Mo_flawOn_0 9 rfl) rfl ha4 (g_in _ _ _) (fun hc36 => ?_) (fun hc36 => ?_)
  · replace h := ifP h hc36
    obtain rfl := Option.some.inj h
    refine gL_weak (ls' := [(3, V a3)]) (sbc 3 rfl sbn) ?_
    exact hx ha3
  · replace h := ifN h hc36
    refine g_aloadn (pc := 17) (i0 := 0) (j := 0) (dK D_Mo_flawOn_0 10 rfl) rfl rfl ?_
    refine g_iload (pc := 18) (j := 4) (dK D_Mo_flawOn_0 11 rfl) rfl ?_
    refine vg_bipush (pc := 20) (dK D_Mo_flawOn_0 12 rfl) rfl ?_
    refine bnE h (fun p1 e_p1 h => ?_)
    refine vg_cV (pc := 22) (As := [V a4, V 6]) (rest := []) (mc' := 0) (ms' := 0) (dK D_Mo_flawOn_0 13 rfl) K_Mo_82 (fitK rfl) (ltK rfl) hc0 rfl (leK rfl) (leK rfl) (leK rfl) (tf_Mo_ofAd hc0 ha4 (inRk rfl) e_p1) (kcI (fun h_p1 => ?_))
    refine g_istore (pc := 25) (ls2 := [(5, V p1), (0, .ref c0), (1, V a1), (2, V a2), (3, V a3), (4, V a4)]) (dK D_Mo_flawOn_0 14 rfl) (ltK rfl) rfl ?_
    refine g_iload (pc := 27) (j := 0) (dK D_Mo_flawOn_0 15 rfl) rfl ?_
    refine vg_if_eq (pc := 29) (t := 125) (dK D_Mo_flawOn_0 16 rfl) rfl h_p1 (fun hc35 => ?_) (fun hc35 => ?_)
    · replace h := ifP h hc35
      refine nmE h (fun v2 e_v2 h => ?_)
      refine vg_iinc (pc := 125) (j := 5) (a := a4) (z := 1) (ls2 := [(4, V v2), (5, V p1), (0, .ref c0), (1, V a1), (2, V a2), (3, V a3)]) (dK D_Mo_flawOn_1 13 rfl) rfl e_v2 (ltK rfl) rfl ?_
      refine g_goto (pc := 128) (tgt := 6) (dK D_Mo_flawOn_1 14 rfl) rfl ?_
      refine gL_weak (ls' := [(0, .ref c0), (1, V a1), (2, V a2), (3, V a3), (4, V v2)]) (sbc 2 rfl (sbc 3 rfl (sbc 4 rfl (sbc 5 rfl (sbc 0 rfl sbn))))) ?_
      replace h := ih _ h
      exact h ha3 (Vn_in e_v2)
    · replace h := ifN h hc35
      refine g_iload (pc := 32) (j := 0) (dK D_Mo_flawOn_0 17 rfl) rfl ?_
      refine g_iloadn (pc := 34) (i0 := 1) (j := 2) (dK D_Mo_flawOn_0 18 rfl) rfl rfl ?_
      refine vg_icmp_eq (pc := 35) (t := 47) (dK D_Mo_flawOn_0 19 rfl) rfl h_p1 ha1 (fun hc34 => ?_) (fun hc34 => ?_)
      · replace h := ifP h hc34
        refine g_aloadn (pc := 47) (i0 := 0) (j := 1) (dK D_Mo_flawOn_0 24 rfl) rfl rfl ?_
        refine g_iload (pc := 48) (j := 5) (dK D_Mo_flawOn_0 25 rfl) rfl ?_
        refine vg_iconst (pc := 50) (dK D_Mo_flawOn_0 26 rfl) ?_
        refine bnE h (fun p3 e_p3 h => ?_)
        refine vg_cV (pc := 51) (As := [V a4, V 2]) (rest := []) (mc' := 0) (ms' := 0) (dK D_Mo_flawOn_0 27 rfl) K_Mo_82 (fitK rfl) (ltK rfl) hc0 rfl (leK rfl) (leK rfl) (leK rfl) (tf_Mo_ofAd hc0 ha4 (inRk rfl) e_p3) (kcI (fun h_p3 => ?_))
        refine vg_iconst (pc := 54) (dK D_Mo_flawOn_0 28 rfl) ?_
        refine vg_icmp_ne (pc := 55) (t := 71) (dK D_Mo_flawOn_0 29 rfl) rfl h_p3 (inRk rfl) (fun hc24 => ?_) (fun hc24 => ?_)
        · replace h := ifN h hc24
          refine gL_weak (ls' := [(0, .ref c0), (1, V a1), (2, V a2), (3, V a3), (4, V a4), (5, V p1)]) (sbc 1 rfl (sbc 2 rfl (sbc 3 rfl (sbc 4 rfl (sbc 5 rfl (sbc 0 rfl sbn)))))) ?_
          exact tj_Mo_flawOn_71 hc0 ha1 ha2 hx ih ha3 ha4 h_p1 h
        · replace h := ifP h hc24
          refine g_aloadn (pc := 58) (i0 := 0) (j := 1) (dK D_Mo_flawOn_0 30 rfl) rfl rfl ?_
          refine g_iload (pc := 59) (j := 0) (dK D_Mo_flawOn_0 31 rfl) rfl ?_
          refine bnE h (fun p19 e_p19 h => ?_)
          refine vg_cV (pc := 61) (As := [V p1]) (rest := []) (mc' := 0) (ms' := 0) (dK D_Mo_flawOn_0 32 rfl) K_Mo_112 (fitK rfl) (ltK rfl) hc0 rfl (leK rfl) (leK rfl) (leK rfl) (tf_Mo_hasColor hc0 h_p1 e_p19) (kcB ?_)
          refine vg_ifB_ne (pc := 64) (b := p19) (t := 71) (dK D_Mo_flawOn_0 33 rfl) rfl (fun hc20 => ?_) (fun hc20 => ?_)
          · replace h := ifP h hc20
            refine gL_weak (ls' := [(0, .ref c0), (1, V a1), (2, V a2), (3, V a3), (4, V a4), (5, V p1)]) (sbc 1 rfl (sbc 2 rfl (sbc 3 rfl (sbc 4 rfl (sbc 5 rfl (sbc 0 rfl sbn)))))) ?_
            exact tj_Mo_flawOn_71 hc0 ha1 ha2 hx ih ha3 ha4 h_p1 h
          · replace h := ifN h hc20
            refine vg_iconst (pc := 67) (dK D_Mo_flawOn_0 34 rfl) ?_
            refine g_goto (pc := 68) (tgt := 110) (dK D_Mo_flawOn_0 35 rfl) rfl ?_
            refine g_istore (pc := 110) (ls2 := [(6, V 4), (5, V p1), (0, .ref c0), (1, V a1), (2, V a2), (3, V a3), (4, V a4)]) (dK D_Mo_flawOn_1 5 rfl) (ltK rfl) rfl ?_
            refine g_iload (pc := 112) (j := 0) (dK D_Mo_flawOn_1 6 rfl) rfl ?_
            refine g_iloadn (pc := 114) (i0 := 3) (j := 5) (dK D_Mo_flawOn_1 7 rfl) rfl rfl ?_
            refine vg_icmp_ge (pc := 115) (t := 123) (dK D_Mo_flawOn_1 8 rfl) rfl (inRk rfl) ha3 (fun hc23 => ?_) (fun hc23 => ?_)
            · replace h := ifP h hc23
              refine g_iloadn (pc := 123) (i0 := 3) (j := 5) (dK D_Mo_flawOn_1 11 rfl) rfl rfl ?_
              refine g_istoren (pc := 124) (i0 := 3) (ls2 := [(3, V a3), (6, V 4), (5, V p1), (0, .ref c0), (1, V a1), (2, V a2), (4, V a4)]) (dK D_Mo_flawOn_1 12 rfl) rfl (ltK rfl) rfl ?_
              refine nmE h (fun v21 e_v21 h => ?_)
              refine vg_iinc (pc := 125) (j := 6) (a := a4) (z := 1) (ls2 := [(4, V v21), (3, V a3), (6, V 4), (5, V p1), (0, .ref c0), (1, V a1), (2, V a2)]) (dK D_Mo_flawOn_1 13 rfl) rfl e_v21 (ltK rfl) rfl ?_
              refine g_goto (pc := 128) (tgt := 6) (dK D_Mo_flawOn_1 14 rfl) rfl ?_
              refine gL_weak (ls' := [(0, .ref c0), (1, V a1), (2, V a2), (3, V a3), (4, V v21)]) (sbc 4 rfl (sbc 5 rfl (sbc 6 rfl (sbc 1 rfl (sbc 0 rfl sbn))))) ?_
              replace h := ih _ h
              exact h ha3 (Vn_in e_v21)
            · replace h := ifN h hc23
              refine g_iload (pc := 118) (j := 0) (dK D_Mo_flawOn_1 9 rfl) rfl ?_
              refine g_goto (pc := 120) (tgt := 124) (dK D_Mo_flawOn_1 10 rfl) rfl ?_
              refine g_istoren (pc := 124) (i0 := 3) (ls2 := [(3, V 4), (6, V 4), (5, V p1), (0, .ref c0), (1, V a1), (2, V a2), (4, V a4)]) (dK D_Mo_flawOn_1 12 rfl) rfl (ltK rfl) rfl ?_
              refine nmE h (fun v22 e_v22 h => ?_)
              refine vg_iinc (pc := 125) (j := 6) (a := a4) (z := 1) (ls2 := [(4, V v22), (3, V 4), (6, V 4), (5, V p1), (0, .ref c0), (1, V a1), (2, V a2)]) (dK D_Mo_flawOn_1 13 rfl) rfl e_v22 (ltK rfl) rfl ?_
              refine g_goto (pc := 128) (tgt := 6) (dK D_Mo_flawOn_1 14 rfl) rfl ?_
              refine gL_weak (ls' := [(0, .ref c0), (1, V a1), (2, V a2), (3, V 4), (4, V v22)]) (sbc 4 rfl (sbc 5 rfl (sbc 6 rfl (sbc 1 rfl (sbc 0 rfl sbn))))) ?_
              replace h := ih _ h
              exact h (inRk rfl) (Vn_in e_v22)
      · replace h := ifN h hc34
        refine g_iload (pc := 38) (j := 0) (dK D_Mo_flawOn_0 20 rfl) rfl ?_
        refine g_iloadn (pc := 40) (i0 := 2) (j := 3) (dK D_Mo_flawOn_0 21 rfl) rfl rfl ?_
        refine vg_icmp_eq (pc := 41) (t := 47) (dK D_Mo_flawOn_0 22 rfl) rfl h_p1 ha2 (fun hc33 => ?_) (fun hc33 => ?_)
        · replace h := ifP h hc33
          refine g_aloadn (pc := 47) (i0 := 0) (j := 1) (dK D_Mo_flawOn_0 24 rfl) rfl rfl ?_
          refine g_iload (pc := 48) (j := 5) (dK D_Mo_flawOn_0 25 rfl) rfl ?_
          refine vg_iconst (pc := 50) (dK D_Mo_flawOn_0 26 rfl) ?_
          refine bnE h (fun p25 e_p25 h => ?_)
          refine vg_cV (pc := 51) (As := [V a4, V 2]) (rest := []) (mc' := 0) (ms' := 0) (dK D_Mo_flawOn_0 27 rfl) K_Mo_82 (fitK rfl) (ltK rfl) hc0 rfl (leK rfl) (leK rfl) (leK rfl) (tf_Mo_ofAd hc0 ha4 (inRk rfl) e_p25) (kcI (fun h_p25 => ?_))
          refine vg_iconst (pc := 54) (dK D_Mo_flawOn_0 28 rfl) ?_
          refine vg_icmp_ne (pc := 55) (t := 71) (dK D_Mo_flawOn_0 29 rfl) rfl h_p25 (inRk rfl) (fun hc31 => ?_) (fun hc31 => ?_)
          · replace h := ifN h hc31
            refine gL_weak (ls' := [(0, .ref c0), (1, V a1), (2, V a2), (3, V a3), (4, V a4), (5, V p1)]) (sbc 1 rfl (sbc 2 rfl (sbc 3 rfl (sbc 4 rfl (sbc 5 rfl (sbc 0 rfl sbn)))))) ?_
            exact tj_Mo_flawOn_71 hc0 ha1 ha2 hx ih ha3 ha4 h_p1 h
          · replace h := ifP h hc31
            refine g_aloadn (pc := 58) (i0 := 0) (j := 1) (dK D_Mo_flawOn_0 30 rfl) rfl rfl ?_
            refine g_iload (pc := 59) (j := 0) (dK D_Mo_flawOn_0 31 rfl) rfl ?_
            refine bnE h (fun p26 e_p26 h => ?_)
            refine vg_cV (pc := 61) (As := [V p1]) (rest := []) (mc' := 0) (ms' := 0) (dK D_Mo_flawOn_0 32 rfl) K_Mo_112 (fitK rfl) (ltK rfl) hc0 rfl (leK rfl) (leK rfl) (leK rfl) (tf_Mo_hasColor hc0 h_p1 e_p26) (kcB ?_)
            refine vg_ifB_ne (pc := 64) (b := p26) (t := 71) (dK D_Mo_flawOn_0 33 rfl) rfl (fun hc27 => ?_) (fun hc27 => ?_)
            · replace h := ifP h hc27
              refine gL_weak (ls' := [(0, .ref c0), (1, V a1), (2, V a2), (3, V a3), (4, V a4), (5, V p1)]) (sbc 1 rfl (sbc 2 rfl (sbc 3 rfl (sbc 4 rfl (sbc 5 rfl (sbc 0 rfl sbn)))))) ?_
              exact tj_Mo_flawOn_71 hc0 ha1 ha2 hx ih ha3 ha4 h_p1 h
            · replace h := ifN h hc27
              refine vg_iconst (pc := 67) (dK D_Mo_flawOn_0 34 rfl) ?_
              refine g_goto (pc := 68) (tgt := 110) (dK D_Mo_flawOn_0 35 rfl) rfl ?_
              refine g_istore (pc := 110) (ls2 := [(6, V 4), (5, V p1), (0, .ref c0), (1, V a1), (2, V a2), (3, V a3), (4, V a4)]) (dK D_Mo_flawOn_1 5 rfl) (ltK rfl) rfl ?_
              refine g_iload (pc := 112) (j := 0) (dK D_Mo_flawOn_1 6 rfl) rfl ?_
              refine g_iloadn (pc := 114) (i0 := 3) (j := 5) (dK D_Mo_flawOn_1 7 rfl) rfl rfl ?_
              refine vg_icmp_ge (pc := 115) (t := 123) (dK D_Mo_flawOn_1 8 rfl) rfl (inRk rfl) ha3 (fun hc30 => ?_) (fun hc30 => ?_)
              · replace h := ifP h hc30
                refine g_iloadn (pc := 123) (i0 := 3) (j := 5) (dK D_Mo_flawOn_1 11 rfl) rfl rfl ?_
                refine g_istoren (pc := 124) (i0 := 3) (ls2 := [(3, V a3), (6, V 4), (5, V p1), (0, .ref c0), (1, V a1), (2, V a2), (4, V a4)]) (dK D_Mo_flawOn_1 12 rfl) rfl (ltK rfl) rfl ?_
                refine nmE h (fun v28 e_v28 h => ?_)
                refine vg_iinc (pc := 125) (j := 6) (a := a4) (z := 1) (ls2 := [(4, V v28), (3, V a3), (6, V 4), (5, V p1), (0, .ref c0), (1, V a1), (2, V a2)]) (dK D_Mo_flawOn_1 13 rfl) rfl e_v28 (ltK rfl) rfl ?_
                refine g_goto (pc := 128) (tgt := 6) (dK D_Mo_flawOn_1 14 rfl) rfl ?_
                refine gL_weak (ls' := [(0, .ref c0), (1, V a1), (2, V a2), (3, V a3), (4, V v28)]) (sbc 4 rfl (sbc 5 rfl (sbc 6 rfl (sbc 1 rfl (sbc 0 rfl sbn))))) ?_
                replace h := ih _ h
                exact h ha3 (Vn_in e_v28)
              · replace h := ifN h hc30
                refine g_iload (pc := 118) (j := 0) (dK D_Mo_flawOn_1 9 rfl) rfl ?_
                refine g_goto (pc := 120) (tgt := 124) (dK D_Mo_flawOn_1 10 rfl) rfl ?_
                refine g_istoren (pc := 124) (i0 := 3) (ls2 := [(3, V 4), (6, V 4), (5, V p1), (0, .ref c0), (1, V a1), (2, V a2), (4, V a4)]) (dK D_Mo_flawOn_1 12 rfl) rfl (ltK rfl) rfl ?_
                refine nmE h (fun v29 e_v29 h => ?_)
                refine vg_iinc (pc := 125) (j := 6) (a := a4) (z := 1) (ls2 := [(4, V v29), (3, V 4), (6, V 4), (5, V p1), (0, .ref c0), (1, V a1), (2, V a2)]) (dK D_Mo_flawOn_1 13 rfl) rfl e_v29 (ltK rfl) rfl ?_
                refine g_goto (pc := 128) (tgt := 6) (dK D_Mo_flawOn_1 14 rfl) rfl ?_
                refine gL_weak (ls' := [(0, .ref c0), (1, V a1), (2, V a2), (3, V 4), (4, V v29)]) (sbc 4 rfl (sbc 5 rfl (sbc 6 rfl (sbc 1 rfl (sbc 0 rfl sbn))))) ?_
                replace h := ih _ h
                exact h (inRk rfl) (Vn_in e_v29)
        · replace h := ifN h hc33
          refine g_goto (pc := 44) (tgt := 125) (dK D_Mo_flawOn_0 23 rfl) rfl ?_
          refine nmE h (fun v32 e_v32 h => ?_)
          refine vg_iinc (pc := 125) (j := 5) (a := a4) (z := 1) (ls2 := [(4, V v32), (5, V p1), (0, .ref c0), (1, V a1), (2, V a2), (3, V a3)]) (dK D_Mo_flawOn_1 13 rfl) rfl e_v32 (ltK rfl) rfl ?_
          refine g_goto (pc := 128) (tgt := 6) (dK D_Mo_flawOn_1 14 rfl) rfl ?_
          refine gL_weak (ls' := [(0, .ref c0), (1, V a1), (2, V a2), (3, V a3), (4, V v32)]) (sbc 2 rfl (sbc 3 rfl (sbc 4 rfl (sbc 5 rfl (sbc 0 rfl sbn))))) ?_
          replace h := ih _ h
          exact h ha3 (Vn_in e_v32)
def fn_Mo_flawOn (c0 : Nat) (a1 : Int) (a2 : Int) (S : St) : Option (Int) := bnO (lo_Mo_flawOn_6 c0 a1 a2 S FU (1000000, 0)) fun p37 => if p37 = 1000000 then (some 0) else (some p37)
theorem tf_Mo_flawOn {E : EV} {X : XT} {c0 : Nat} (hc0 : HC X 11 c0) {a1 : Int} (ha1 : inR a1) {a2 : Int} (ha2 : inR a2) {S : St} {q : Int} (h : fn_Mo_flawOn c0 a1 a2 S = some q) : Ev E M_Mo_flawOn [.ref c0, V a1, V a2] (WX X S) 0 0 (KI X q S) := by
  refine Ev.of pn_Mo rfl (leK rfl) ?_
  show Go E M_Mo_flawOn 0 0 0 [(0, .ref c0), (1, V a1), (2, V a2)] [] (WX X S) 0 0 (KI X q S)
  unfold fn_Mo_flawOn at h
  refine vg_ldc (pc := 0) (y := 1000000) (dK D_Mo_flawOn_0 0 rfl) q_1616 rfl ?_
  refine g_istoren (pc := 2) (i0 := 3) (ls2 := [(3, V 1000000), (0, .ref c0), (1, V a1), (2, V a2)]) (dK D_Mo_flawOn_0 1 rfl) rfl (ltK rfl) rfl ?_
  refine vg_iconst (pc := 3) (dK D_Mo_flawOn_0 2 rfl) ?_
  refine g_istore (pc := 4) (ls2 := [(4, V 0), (3, V 1000000), (0, .ref c0), (1, V a1), (2, V a2)]) (dK D_Mo_flawOn_0 3 rfl) (ltK rfl) rfl ?_
  refine bnE h (fun p37 e_p37 h => ?_)
  refine gL_weak (ls' := [(0, .ref c0), (1, V a1), (2, V a2), (3, V 1000000), (4, V 0)]) (sbc 2 rfl (sbc 3 rfl (sbc 4 rfl (sbc 1 rfl (sbc 0 rfl sbn))))) ?_
  refine tl_Mo_flawOn_6 hc0 ha1 ha2 (fun hx3_p37 => ?_) FU (1000000, 0) e_p37 (inRk rfl) (inRk rfl)
  refine g_iloadn (pc := 131) (i0 := 3) (j := 0) (dK D_Mo_flawOn_1 15 rfl) rfl rfl ?_
  refine vg_ldc (pc := 132) (y := 1000000) (dK D_Mo_flawOn_1 16 rfl) q_1616 rfl ?_
  refine vg_icmp_ne (pc := 134) (t := 141) (dK D_Mo_flawOn_1 17 rfl) rfl hx3_p37 (inRk rfl) (fun hc38 => ?_) (fun hc38 => ?_)
  · replace h := ifN h hc38
    refine g_iloadn (pc := 141) (i0 := 3) (j := 0) (dK D_Mo_flawOn_1 20 rfl) rfl rfl ?_
    exact vg_iretI (pc := 142) (r := p37) (dK D_Mo_flawOn_1 21 rfl) rfl (leK rfl) (leK rfl) (fun _ => rfl) (by obtain rfl := Option.some.inj h; exact ⟨rfl, hx3_p37, rfl⟩)
  · replace h := ifP h hc38
    refine vg_iconst (pc := 137) (dK D_Mo_flawOn_1 18 rfl) ?_
    refine g_goto (pc := 138) (tgt := 142) (dK D_Mo_flawOn_1 19 rfl) rfl ?_
    exact vg_iretI (pc := 142) (r := 0) (dK D_Mo_flawOn_1 21 rfl) rfl (leK rfl) (leK rfl) (fun _ => rfl) (by obtain rfl := Option.some.inj h; exact ⟨rfl, (inRk rfl), rfl⟩)
def fn_Mo_exchangeReason (c0 : Nat) (a1 : Int) (a2 : Int) (S : St) : Option (Int × St) := bnO (fn_Mo_isPrinted c0 a1 S) fun p1 => if p1 = true then (some (2, S)) else (bnO (fn_Mo_isPrinted c0 a2 S) fun p3 => if p3 = true then (some (2, S)) else (bnO (fn_Mo_storyOn c0 a1 (-1) S) fun p5 => if p5 = (-1) then (bnO (fn_Mo_storyOn c0 a2 (-1) S) fun p6 => if p6 = (-1) then (bnO (fn_Mo_swapPages c0 a1 a2 S) fun p7 => bnO (fn_Mo_flawOn c0 a1 a2 p7) fun p8 => bnO (fn_Mo_swapPages c0 a1 a2 p7) fun p9 => some (p8, p9)) else (some (3, S))) else (some (3, S))))
theorem tf_Mo_exchangeReason {E : EV} {X : XT} {c0 : Nat} (hc0 : HC X 11 c0) {a1 : Int} (ha1 : inR a1) {a2 : Int} (ha2 : inR a2) {S : St} {q : Int × St} (h : fn_Mo_exchangeReason c0 a1 a2 S = some q) : Ev E M_Mo_exchangeReason [.ref c0, V a1, V a2] (WX X S) 0 0 (KI X q.1 q.2) := by
  refine Ev.of pn_Mo rfl (leK rfl) ?_
  show Go E M_Mo_exchangeReason 0 0 0 [(0, .ref c0), (1, V a1), (2, V a2)] [] (WX X S) 0 0 (KI X q.1 q.2)
  unfold fn_Mo_exchangeReason at h
  refine g_aloadn (pc := 0) (i0 := 0) (j := 0) (dK D_Mo_exchangeReason 0 rfl) rfl rfl ?_
  refine g_iloadn (pc := 1) (i0 := 1) (j := 1) (dK D_Mo_exchangeReason 1 rfl) rfl rfl ?_
  refine bnE h (fun p1 e_p1 h => ?_)
  refine vg_cV (pc := 2) (As := [V a1]) (rest := []) (mc' := 0) (ms' := 0) (dK D_Mo_exchangeReason 2 rfl) K_Mo_109 (fitK rfl) (ltK rfl) hc0 rfl (leK rfl) (leK rfl) (leK rfl) (tf_Mo_isPrinted hc0 ha1 e_p1) (kcB ?_)
  refine vg_ifB_ne (pc := 5) (b := p1) (t := 16) (dK D_Mo_exchangeReason 3 rfl) rfl (fun hc2 => ?_) (fun hc2 => ?_)
  · replace h := ifP h hc2
    refine vg_iconst (pc := 16) (dK D_Mo_exchangeReason 8 rfl) ?_
    exact vg_iretI (pc := 17) (r := 2) (dK D_Mo_exchangeReason 9 rfl) rfl (leK rfl) (leK rfl) (fun _ => rfl) (by obtain rfl := Option.some.inj h; exact ⟨rfl, (inRk rfl), rfl⟩)
  · replace h := ifN h hc2
    refine g_aloadn (pc := 8) (i0 := 0) (j := 0) (dK D_Mo_exchangeReason 4 rfl) rfl rfl ?_
    refine g_iloadn (pc := 9) (i0 := 2) (j := 2) (dK D_Mo_exchangeReason 5 rfl) rfl rfl ?_
    refine bnE h (fun p3 e_p3 h => ?_)
    refine vg_cV (pc := 10) (As := [V a2]) (rest := []) (mc' := 0) (ms' := 0) (dK D_Mo_exchangeReason 6 rfl) K_Mo_109 (fitK rfl) (ltK rfl) hc0 rfl (leK rfl) (leK rfl) (leK rfl) (tf_Mo_isPrinted hc0 ha2 e_p3) (kcB ?_)
    refine vg_ifB_eq (pc := 13) (b := p3) (t := 18) (dK D_Mo_exchangeReason 7 rfl) rfl (fun hc4 => ?_) (fun hc4 => ?_)
    · replace h := ifP h hc4
      refine vg_iconst (pc := 16) (dK D_Mo_exchangeReason 8 rfl) ?_
      exact vg_iretI (pc := 17) (r := 2) (dK D_Mo_exchangeReason 9 rfl) rfl (leK rfl) (leK rfl) (fun _ => rfl) (by obtain rfl := Option.some.inj h; exact ⟨rfl, (inRk rfl), rfl⟩)
    · replace h := ifN h hc4
      refine g_aloadn (pc := 18) (i0 := 0) (j := 0) (dK D_Mo_exchangeReason 10 rfl) rfl rfl ?_
      refine g_iloadn (pc := 19) (i0 := 1) (j := 1) (dK D_Mo_exchangeReason 11 rfl) rfl rfl ?_
      refine vg_iconst (pc := 20) (dK D_Mo_exchangeReason 12 rfl) ?_
      refine bnE h (fun p5 e_p5 h => ?_)
      refine vg_cV (pc := 21) (As := [V a1, V (-1)]) (rest := []) (mc' := 0) (ms' := 0) (dK D_Mo_exchangeReason 13 rfl) K_Mo_95 (fitK rfl) (ltK rfl) hc0 rfl (leK rfl) (leK rfl) (leK rfl) (tf_Mo_storyOn hc0 ha1 (inRk rfl) e_p5) (kcI (fun h_p5 => ?_))
      refine vg_iconst (pc := 24) (dK D_Mo_exchangeReason 14 rfl) ?_
      refine vg_icmp_ne (pc := 25) (t := 38) (dK D_Mo_exchangeReason 15 rfl) rfl h_p5 (inRk rfl) (fun hc11 => ?_) (fun hc11 => ?_)
      · replace h := ifN h hc11
        refine vg_iconst (pc := 38) (dK D_Mo_exchangeReason 22 rfl) ?_
        exact vg_iretI (pc := 39) (r := 3) (dK D_Mo_exchangeReason 23 rfl) rfl (leK rfl) (leK rfl) (fun _ => rfl) (by obtain rfl := Option.some.inj h; exact ⟨rfl, (inRk rfl), rfl⟩)
      · replace h := ifP h hc11
        refine g_aloadn (pc := 28) (i0 := 0) (j := 0) (dK D_Mo_exchangeReason 16 rfl) rfl rfl ?_
        refine g_iloadn (pc := 29) (i0 := 2) (j := 2) (dK D_Mo_exchangeReason 17 rfl) rfl rfl ?_
        refine vg_iconst (pc := 30) (dK D_Mo_exchangeReason 18 rfl) ?_
        refine bnE h (fun p6 e_p6 h => ?_)
        refine vg_cV (pc := 31) (As := [V a2, V (-1)]) (rest := []) (mc' := 0) (ms' := 0) (dK D_Mo_exchangeReason 19 rfl) K_Mo_95 (fitK rfl) (ltK rfl) hc0 rfl (leK rfl) (leK rfl) (leK rfl) (tf_Mo_storyOn hc0 ha2 (inRk rfl) e_p6) (kcI (fun h_p6 => ?_))
        refine vg_iconst (pc := 34) (dK D_Mo_exchangeReason 20 rfl) ?_
        refine vg_icmp_eq (pc := 35) (t := 40) (dK D_Mo_exchangeReason 21 rfl) rfl h_p6 (inRk rfl) (fun hc10 => ?_) (fun hc10 => ?_)
        · replace h := ifP h hc10
          refine g_aloadn (pc := 40) (i0 := 0) (j := 0) (dK D_Mo_exchangeReason 24 rfl) rfl rfl ?_
          refine g_iloadn (pc := 41) (i0 := 1) (j := 1) (dK D_Mo_exchangeReason 25 rfl) rfl rfl ?_
          refine g_iloadn (pc := 42) (i0 := 2) (j := 2) (dK D_Mo_exchangeReason 26 rfl) rfl rfl ?_
          refine bnE h (fun p7 e_p7 h => ?_)
          refine vg_cV (pc := 43) (As := [V a1, V a2]) (rest := []) (mc' := 0) (ms' := 0) (dK D_Mo_exchangeReason 27 rfl) K_Mo_223 (fitK rfl) (ltK rfl) hc0 rfl (leK rfl) (leK rfl) (leK rfl) (tf_Mo_swapPages hc0 ha1 ha2 e_p7) (kcU ?_)
          refine g_aloadn (pc := 46) (i0 := 0) (j := 0) (dK D_Mo_exchangeReason 28 rfl) rfl rfl ?_
          refine g_iloadn (pc := 47) (i0 := 1) (j := 1) (dK D_Mo_exchangeReason 29 rfl) rfl rfl ?_
          refine g_iloadn (pc := 48) (i0 := 2) (j := 2) (dK D_Mo_exchangeReason 30 rfl) rfl rfl ?_
          refine bnE h (fun p8 e_p8 h => ?_)
          refine vg_cV (pc := 49) (As := [V a1, V a2]) (rest := []) (mc' := 0) (ms' := 0) (dK D_Mo_exchangeReason 31 rfl) K_Mo_226 (fitK rfl) (ltK rfl) hc0 rfl (leK rfl) (leK rfl) (leK rfl) (tf_Mo_flawOn hc0 ha1 ha2 e_p8) (kcI (fun h_p8 => ?_))
          refine g_istoren (pc := 52) (i0 := 3) (ls2 := [(3, V p8), (0, .ref c0), (1, V a1), (2, V a2)]) (dK D_Mo_exchangeReason 32 rfl) rfl (ltK rfl) rfl ?_
          refine g_aloadn (pc := 53) (i0 := 0) (j := 1) (dK D_Mo_exchangeReason 33 rfl) rfl rfl ?_
          refine g_iloadn (pc := 54) (i0 := 1) (j := 2) (dK D_Mo_exchangeReason 34 rfl) rfl rfl ?_
          refine g_iloadn (pc := 55) (i0 := 2) (j := 3) (dK D_Mo_exchangeReason 35 rfl) rfl rfl ?_
          refine bnE h (fun p9 e_p9 h => ?_)
          refine vg_cV (pc := 56) (As := [V a1, V a2]) (rest := []) (mc' := 0) (ms' := 0) (dK D_Mo_exchangeReason 36 rfl) K_Mo_223 (fitK rfl) (ltK rfl) hc0 rfl (leK rfl) (leK rfl) (leK rfl) (tf_Mo_swapPages hc0 ha1 ha2 e_p9) (kcU ?_)
          refine g_iloadn (pc := 59) (i0 := 3) (j := 0) (dK D_Mo_exchangeReason 37 rfl) rfl rfl ?_
          exact vg_iretI (pc := 60) (r := p8) (dK D_Mo_exchangeReason 38 rfl) rfl (leK rfl) (leK rfl) (fun _ => rfl) (by obtain rfl := Option.some.inj h; exact ⟨rfl, h_p8, rfl⟩)
        · replace h := ifN h hc10
          refine vg_iconst (pc := 38) (dK D_Mo_exchangeReason 22 rfl) ?_
          exact vg_iretI (pc := 39) (r := 3) (dK D_Mo_exchangeReason 23 rfl) rfl (leK rfl) (leK rfl) (fun _ => rfl) (by obtain rfl := Option.some.inj h; exact ⟨rfl, (inRk rfl), rfl⟩)
def fn_Mo_exchange (c0 : Nat) (a1 : Int) (a2 : Int) (S : St) : Option (Int × St) := nm (u S c0 4 0) fun S1 => bnO (fn_Mo_isPage c0 a1 S1) fun p2 => if p2 = true then (bnO (fn_Mo_isPage c0 a2 S1) fun p10 => if p10 = true then (bnO (fn_Mo_throwsIf c0 0 1 S1) fun p12 => if p12.1 = true then (some (0, p12.2)) else (bnO (fn_Mo_exchangeReason c0 a1 a2 p12.2) fun p14 => if p14.1 ≤ 0 then (bnO (fn_Mo_record c0 p14.2) fun p15 => bnO (fn_Mo_swapPages c0 a1 a2 p15) fun p16 => some (0, p16)) else (some (p14.1, p14.2)))) else (bnO (fn_Mo_throwsIf c0 1 1 S1) fun p18 => if p18.1 = true then (some (0, p18.2)) else (bnO (fn_Mo_exchangeReason c0 a1 a2 p18.2) fun p20 => if p20.1 ≤ 0 then (bnO (fn_Mo_record c0 p20.2) fun p21 => bnO (fn_Mo_swapPages c0 a1 a2 p21) fun p22 => some (0, p22)) else (some (p20.1, p20.2))))) else (bnO (fn_Mo_throwsIf c0 1 1 S1) fun p4 => if p4.1 = true then (some (0, p4.2)) else (bnO (fn_Mo_exchangeReason c0 a1 a2 p4.2) fun p6 => if p6.1 ≤ 0 then (bnO (fn_Mo_record c0 p6.2) fun p7 => bnO (fn_Mo_swapPages c0 a1 a2 p7) fun p8 => some (0, p8)) else (some (p6.1, p6.2))))
theorem tf_Mo_exchange {E : EV} {X : XT} {c0 : Nat} (hc0 : HC X 11 c0) {a1 : Int} (ha1 : inR a1) {a2 : Int} (ha2 : inR a2) {S : St} {q : Int × St} (h : fn_Mo_exchange c0 a1 a2 S = some q) : Ev E M_Mo_exchange [.ref c0, V a1, V a2] (WX X S) 0 0 (KI X q.1 q.2) := by
  refine Ev.of pn_Mo rfl (leK rfl) ?_
  show Go E M_Mo_exchange 0 0 0 [(0, .ref c0), (1, V a1), (2, V a2)] [] (WX X S) 0 0 (KI X q.1 q.2)
  unfold fn_Mo_exchange at h
  refine g_aloadn (pc := 0) (i0 := 0) (j := 0) (dK D_Mo_exchange 0 rfl) rfl rfl ?_
  refine vg_iconst (pc := 1) (dK D_Mo_exchange 1 rfl) ?_
  refine nmE h (fun S1 e_S1 h => ?_)
  refine vg_putI (pc := 2) (ci := 11) (f := 4) (z := 0) (dK D_Mo_exchange 2 rfl) q_1446 hc0 (ltK rfl) (ltK rfl) rfl rfl e_S1 ?_
  refine g_aloadn (pc := 5) (i0 := 0) (j := 0) (dK D_Mo_exchange 3 rfl) rfl rfl ?_
  refine g_aloadn (pc := 6) (i0 := 0) (j := 0) (dK D_Mo_exchange 4 rfl) rfl rfl ?_
  refine g_iloadn (pc := 7) (i0 := 1) (j := 1) (dK D_Mo_exchange 5 rfl) rfl rfl ?_
  refine bnE h (fun p2 e_p2 h => ?_)
  refine vg_cV (pc := 8) (As := [V a1]) (rest := [.ref c0]) (mc' := 0) (ms' := 0) (dK D_Mo_exchange 6 rfl) K_Mo_105 (fitK rfl) (ltK rfl) hc0 rfl (leK rfl) (leK rfl) (leK rfl) (tf_Mo_isPage hc0 ha1 e_p2) (kcB ?_)
  refine vg_ifB_eq (pc := 11) (b := p2) (t := 22) (dK D_Mo_exchange 7 rfl) rfl (fun hc3 => ?_) (fun hc3 => ?_)
  · replace h := ifP h hc3
    refine g_aloadn (pc := 14) (i0 := 0) (j := 0) (dK D_Mo_exchange 8 rfl) rfl rfl ?_
    refine g_iloadn (pc := 15) (i0 := 2) (j := 2) (dK D_Mo_exchange 9 rfl) rfl rfl ?_
    refine bnE h (fun p10 e_p10 h => ?_)
    refine vg_cV (pc := 16) (As := [V a2]) (rest := [.ref c0]) (mc' := 0) (ms' := 0) (dK D_Mo_exchange 10 rfl) K_Mo_105 (fitK rfl) (ltK rfl) hc0 rfl (leK rfl) (leK rfl) (leK rfl) (tf_Mo_isPage hc0 ha2 e_p10) (kcB ?_)
    refine vg_ifB_ne (pc := 19) (b := p10) (t := 26) (dK D_Mo_exchange 11 rfl) rfl (fun hc11 => ?_) (fun hc11 => ?_)
    · replace h := ifP h hc11
      refine vg_iconst (pc := 26) (dK D_Mo_exchange 14 rfl) ?_
      refine vg_iconst (pc := 27) (dK D_Mo_exchange 15 rfl) ?_
      refine bnE h (fun p12 e_p12 h => ?_)
      refine vg_cV (pc := 28) (As := [V 0, V 1]) (rest := []) (mc' := 0) (ms' := 0) (dK D_Mo_exchange 16 rfl) K_Mo_125 (fitK rfl) (ltK rfl) hc0 rfl (leK rfl) (leK rfl) (leK rfl) (tf_Mo_throwsIf hc0 (inRk rfl) (inRk rfl) e_p12) (kcB ?_)
      refine vg_ifB_eq (pc := 31) (b := p12.1) (t := 36) (dK D_Mo_exchange 17 rfl) rfl (fun hc13 => ?_) (fun hc13 => ?_)
      · replace h := ifP h hc13
        refine vg_iconst (pc := 34) (dK D_Mo_exchange 18 rfl) ?_
        exact vg_iretI (pc := 35) (r := 0) (dK D_Mo_exchange 19 rfl) rfl (leK rfl) (leK rfl) (fun _ => rfl) (by obtain rfl := Option.some.inj h; exact ⟨rfl, (inRk rfl), rfl⟩)
      · replace h := ifN h hc13
        refine g_aloadn (pc := 36) (i0 := 0) (j := 0) (dK D_Mo_exchange 20 rfl) rfl rfl ?_
        refine g_iloadn (pc := 37) (i0 := 1) (j := 1) (dK D_Mo_exchange 21 rfl) rfl rfl ?_
        refine g_iloadn (pc := 38) (i0 := 2) (j := 2) (dK D_Mo_exchange 22 rfl) rfl rfl ?_
        refine bnE h (fun p14 e_p14 h => ?_)
        refine vg_cV (pc := 39) (As := [V a1, V a2]) (rest := []) (mc' := 0) (ms' := 0) (dK D_Mo_exchange 23 rfl) K_Mo_229 (fitK rfl) (ltK rfl) hc0 rfl (leK rfl) (leK rfl) (leK rfl) (tf_Mo_exchangeReason hc0 ha1 ha2 e_p14) (kcI (fun h_p14 => ?_))
        refine g_istoren (pc := 42) (i0 := 3) (ls2 := [(3, V p14.1), (0, .ref c0), (1, V a1), (2, V a2)]) (dK D_Mo_exchange 24 rfl) rfl (ltK rfl) rfl ?_
        refine g_iloadn (pc := 43) (i0 := 3) (j := 0) (dK D_Mo_exchange 25 rfl) rfl rfl ?_
        refine vg_if_le (pc := 44) (t := 49) (dK D_Mo_exchange 26 rfl) rfl h_p14 (fun hc17 => ?_) (fun hc17 => ?_)
        · replace h := ifP h hc17
          refine g_aloadn (pc := 49) (i0 := 0) (j := 1) (dK D_Mo_exchange 29 rfl) rfl rfl ?_
          refine bnE h (fun p15 e_p15 h => ?_)
          refine vg_cV (pc := 50) (As := []) (rest := []) (mc' := 0) (ms' := 0) (dK D_Mo_exchange 30 rfl) K_Mo_159 (fitK rfl) (ltK rfl) hc0 rfl (leK rfl) (leK rfl) (leK rfl) (tf_Mo_record hc0 e_p15) (kcU ?_)
          refine g_aloadn (pc := 53) (i0 := 0) (j := 1) (dK D_Mo_exchange 31 rfl) rfl rfl ?_
          refine g_iloadn (pc := 54) (i0 := 1) (j := 2) (dK D_Mo_exchange 32 rfl) rfl rfl ?_
          refine g_iloadn (pc := 55) (i0 := 2) (j := 3) (dK D_Mo_exchange 33 rfl) rfl rfl ?_
          refine bnE h (fun p16 e_p16 h => ?_)
          refine vg_cV (pc := 56) (As := [V a1, V a2]) (rest := []) (mc' := 0) (ms' := 0) (dK D_Mo_exchange 34 rfl) K_Mo_223 (fitK rfl) (ltK rfl) hc0 rfl (leK rfl) (leK rfl) (leK rfl) (tf_Mo_swapPages hc0 ha1 ha2 e_p16) (kcU ?_)
          refine vg_iconst (pc := 59) (dK D_Mo_exchange 35 rfl) ?_
          exact vg_iretI (pc := 60) (r := 0) (dK D_Mo_exchange 36 rfl) rfl (leK rfl) (leK rfl) (fun _ => rfl) (by obtain rfl := Option.some.inj h; exact ⟨rfl, (inRk rfl), rfl⟩)
        · replace h := ifN h hc17
          refine g_iloadn (pc := 47) (i0 := 3) (j := 0) (dK D_Mo_exchange 27 rfl) rfl rfl ?_
          exact vg_iretI (pc := 48) (r := p14.1) (dK D_Mo_exchange 28 rfl) rfl (leK rfl) (leK rfl) (fun _ => rfl) (by obtain rfl := Option.some.inj h; exact ⟨rfl, h_p14, rfl⟩)
    · replace h := ifN h hc11
      refine vg_iconst (pc := 22) (dK D_Mo_exchange 12 rfl) ?_
      refine g_goto (pc := 23) (tgt := 27) (dK D_Mo_exchange 13 rfl) rfl ?_
      refine vg_iconst (pc := 27) (dK D_Mo_exchange 15 rfl) ?_
      refine bnE h (fun p18 e_p18 h => ?_)
      refine vg_cV (pc := 28) (As := [V 1, V 1]) (rest := []) (mc' := 0) (ms' := 0) (dK D_Mo_exchange 16 rfl) K_Mo_125 (fitK rfl) (ltK rfl) hc0 rfl (leK rfl) (leK rfl) (leK rfl) (tf_Mo_throwsIf hc0 (inRk rfl) (inRk rfl) e_p18) (kcB ?_)
      refine vg_ifB_eq (pc := 31) (b := p18.1) (t := 36) (dK D_Mo_exchange 17 rfl) rfl (fun hc19 => ?_) (fun hc19 => ?_)
      · replace h := ifP h hc19
        refine vg_iconst (pc := 34) (dK D_Mo_exchange 18 rfl) ?_
        exact vg_iretI (pc := 35) (r := 0) (dK D_Mo_exchange 19 rfl) rfl (leK rfl) (leK rfl) (fun _ => rfl) (by obtain rfl := Option.some.inj h; exact ⟨rfl, (inRk rfl), rfl⟩)
      · replace h := ifN h hc19
        refine g_aloadn (pc := 36) (i0 := 0) (j := 0) (dK D_Mo_exchange 20 rfl) rfl rfl ?_
        refine g_iloadn (pc := 37) (i0 := 1) (j := 1) (dK D_Mo_exchange 21 rfl) rfl rfl ?_
        refine g_iloadn (pc := 38) (i0 := 2) (j := 2) (dK D_Mo_exchange 22 rfl) rfl rfl ?_
        refine bnE h (fun p20 e_p20 h => ?_)
        refine vg_cV (pc := 39) (As := [V a1, V a2]) (rest := []) (mc' := 0) (ms' := 0) (dK D_Mo_exchange 23 rfl) K_Mo_229 (fitK rfl) (ltK rfl) hc0 rfl (leK rfl) (leK rfl) (leK rfl) (tf_Mo_exchangeReason hc0 ha1 ha2 e_p20) (kcI (fun h_p20 => ?_))
        refine g_istoren (pc := 42) (i0 := 3) (ls2 := [(3, V p20.1), (0, .ref c0), (1, V a1), (2, V a2)]) (dK D_Mo_exchange 24 rfl) rfl (ltK rfl) rfl ?_
        refine g_iloadn (pc := 43) (i0 := 3) (j := 0) (dK D_Mo_exchange 25 rfl) rfl rfl ?_
        refine vg_if_le (pc := 44) (t := 49) (dK D_Mo_exchange 26 rfl) rfl h_p20 (fun hc23 => ?_) (fun hc23 => ?_)
        · replace h := ifP h hc23
          refine g_aloadn (pc := 49) (i0 := 0) (j := 1) (dK D_Mo_exchange 29 rfl) rfl rfl ?_
          refine bnE h (fun p21 e_p21 h => ?_)
          refine vg_cV (pc := 50) (As := []) (rest := []) (mc' := 0) (ms' := 0) (dK D_Mo_exchange 30 rfl) K_Mo_159 (fitK rfl) (ltK rfl) hc0 rfl (leK rfl) (leK rfl) (leK rfl) (tf_Mo_record hc0 e_p21) (kcU ?_)
          refine g_aloadn (pc := 53) (i0 := 0) (j := 1) (dK D_Mo_exchange 31 rfl) rfl rfl ?_
          refine g_iloadn (pc := 54) (i0 := 1) (j := 2) (dK D_Mo_exchange 32 rfl) rfl rfl ?_
          refine g_iloadn (pc := 55) (i0 := 2) (j := 3) (dK D_Mo_exchange 33 rfl) rfl rfl ?_
          refine bnE h (fun p22 e_p22 h => ?_)
          refine vg_cV (pc := 56) (As := [V a1, V a2]) (rest := []) (mc' := 0) (ms' := 0) (dK D_Mo_exchange 34 rfl) K_Mo_223 (fitK rfl) (ltK rfl) hc0 rfl (leK rfl) (leK rfl) (leK rfl) (tf_Mo_swapPages hc0 ha1 ha2 e_p22) (kcU ?_)
          refine vg_iconst (pc := 59) (dK D_Mo_exchange 35 rfl) ?_
          exact vg_iretI (pc := 60) (r := 0) (dK D_Mo_exchange 36 rfl) rfl (leK rfl) (leK rfl) (fun _ => rfl) (by obtain rfl := Option.some.inj h; exact ⟨rfl, (inRk rfl), rfl⟩)
        · replace h := ifN h hc23
          refine g_iloadn (pc := 47) (i0 := 3) (j := 0) (dK D_Mo_exchange 27 rfl) rfl rfl ?_
          exact vg_iretI (pc := 48) (r := p20.1) (dK D_Mo_exchange 28 rfl) rfl (leK rfl) (leK rfl) (fun _ => rfl) (by obtain rfl := Option.some.inj h; exact ⟨rfl, h_p20, rfl⟩)
  · replace h := ifN h hc3
    refine vg_iconst (pc := 22) (dK D_Mo_exchange 12 rfl) ?_
    refine g_goto (pc := 23) (tgt := 27) (dK D_Mo_exchange 13 rfl) rfl ?_
    refine vg_iconst (pc := 27) (dK D_Mo_exchange 15 rfl) ?_
    refine bnE h (fun p4 e_p4 h => ?_)
    refine vg_cV (pc := 28) (As := [V 1, V 1]) (rest := []) (mc' := 0) (ms' := 0) (dK D_Mo_exchange 16 rfl) K_Mo_125 (fitK rfl) (ltK rfl) hc0 rfl (leK rfl) (leK rfl) (leK rfl) (tf_Mo_throwsIf hc0 (inRk rfl) (inRk rfl) e_p4) (kcB ?_)
    refine vg_ifB_eq (pc := 31) (b := p4.1) (t := 36) (dK D_Mo_exchange 17 rfl) rfl (fun hc5 => ?_) (fun hc5 => ?_)
    · replace h := ifP h hc5
      refine vg_iconst (pc := 34) (dK D_Mo_exchange 18 rfl) ?_
      exact vg_iretI (pc := 35) (r := 0) (dK D_Mo_exchange 19 rfl) rfl (leK rfl) (leK rfl) (fun _ => rfl) (by obtain rfl := Option.some.inj h; exact ⟨rfl, (inRk rfl), rfl⟩)
    · replace h := ifN h hc5
      refine g_aloadn (pc := 36) (i0 := 0) (j := 0) (dK D_Mo_exchange 20 rfl) rfl rfl ?_
      refine g_iloadn (pc := 37) (i0 := 1) (j := 1) (dK D_Mo_exchange 21 rfl) rfl rfl ?_
      refine g_iloadn (pc := 38) (i0 := 2) (j := 2) (dK D_Mo_exchange 22 rfl) rfl rfl ?_
      refine bnE h (fun p6 e_p6 h => ?_)
      refine vg_cV (pc := 39) (As := [V a1, V a2]) (rest := []) (mc' := 0) (ms' := 0) (dK D_Mo_exchange 23 rfl) K_Mo_229 (fitK rfl) (ltK rfl) hc0 rfl (leK rfl) (leK rfl) (leK rfl) (tf_Mo_exchangeReason hc0 ha1 ha2 e_p6) (kcI (fun h_p6 => ?_))
      refine g_istoren (pc := 42) (i0 := 3) (ls2 := [(3, V p6.1), (0, .ref c0), (1, V a1), (2, V a2)]) (dK D_Mo_exchange 24 rfl) rfl (ltK rfl) rfl ?_
      refine g_iloadn (pc := 43) (i0 := 3) (j := 0) (dK D_Mo_exchange 25 rfl) rfl rfl ?_
      refine vg_if_le (pc := 44) (t := 49) (dK D_Mo_exchange 26 rfl) rfl h_p6 (fun hc9 => ?_) (fun hc9 => ?_)
      · replace h := ifP h hc9
        refine g_aloadn (pc := 49) (i0 := 0) (j := 1) (dK D_Mo_exchange 29 rfl) rfl rfl ?_
        refine bnE h (fun p7 e_p7 h => ?_)
        refine vg_cV (pc := 50) (As := []) (rest := []) (mc' := 0) (ms' := 0) (dK D_Mo_exchange 30 rfl) K_Mo_159 (fitK rfl) (ltK rfl) hc0 rfl (leK rfl) (leK rfl) (leK rfl) (tf_Mo_record hc0 e_p7) (kcU ?_)
        refine g_aloadn (pc := 53) (i0 := 0) (j := 1) (dK D_Mo_exchange 31 rfl) rfl rfl ?_
        refine g_iloadn (pc := 54) (i0 := 1) (j := 2) (dK D_Mo_exchange 32 rfl) rfl rfl ?_
        refine g_iloadn (pc := 55) (i0 := 2) (j := 3) (dK D_Mo_exchange 33 rfl) rfl rfl ?_
        refine bnE h (fun p8 e_p8 h => ?_)
        refine vg_cV (pc := 56) (As := [V a1, V a2]) (rest := []) (mc' := 0) (ms' := 0) (dK D_Mo_exchange 34 rfl) K_Mo_223 (fitK rfl) (ltK rfl) hc0 rfl (leK rfl) (leK rfl) (leK rfl) (tf_Mo_swapPages hc0 ha1 ha2 e_p8) (kcU ?_)
        refine vg_iconst (pc := 59) (dK D_Mo_exchange 35 rfl) ?_
        exact vg_iretI (pc := 60) (r := 0) (dK D_Mo_exchange 36 rfl) rfl (leK rfl) (leK rfl) (fun _ => rfl) (by obtain rfl := Option.some.inj h; exact ⟨rfl, (inRk rfl), rfl⟩)
      · replace h := ifN h hc9
        refine g_iloadn (pc := 47) (i0 := 3) (j := 0) (dK D_Mo_exchange 27 rfl) rfl rfl ?_
        exact vg_iretI (pc := 48) (r := p6.1) (dK D_Mo_exchange 28 rfl) rfl (leK rfl) (leK rfl) (fun _ => rfl) (by obtain rfl := Option.some.inj h; exact ⟨rfl, h_p6, rfl⟩)
def fn_Mo_setForm (c0 : Nat) (a1 : Int) (a2 : Int) (a3 : Int) (S : St) : Option (St) := if 0 ≤ ((5 + (3 * a1)) + a2) ∧ ((5 + (3 * a1)) + a2) < 8740 then (nm (u S (tgt c0 0) ((((5 + (3 * a1)) + a2)).toNat) a3) fun S2 => some S2) else none
theorem tf_Mo_setForm {E : EV} {X : XT} {c0 : Nat} (hc0 : HC X 11 c0) {a1 : Int} (ha1 : inR a1) {a2 : Int} (ha2 : inR a2) {a3 : Int} (ha3 : inR a3) {S : St} {q : St} (h : fn_Mo_setForm c0 a1 a2 a3 S = some q) : Ev E M_Mo_setForm [.ref c0, V a1, V a2, V a3] (WX X S) 0 0 (KU X q) := by
  refine Ev.of pn_Mo rfl (leK rfl) ?_
  show Go E M_Mo_setForm 0 0 0 [(0, .ref c0), (1, V a1), (2, V a2), (3, V a3)] [] (WX X S) 0 0 (KU X q)
  unfold fn_Mo_setForm at h
  refine g_aloadn (pc := 0) (i0 := 0) (j := 0) (dK D_Mo_setForm 0 rfl) rfl rfl ?_
  refine vg_getA (pc := 1) (ci := 11) (f := 0) (dK D_Mo_setForm 1 rfl) q_1442 hc0 (ltK rfl) (ltK rfl) rfl ?_
  refine vg_iconst (pc := 4) (dK D_Mo_setForm 2 rfl) ?_
  refine vg_iconst (pc := 5) (dK D_Mo_setForm 3 rfl) ?_
  refine g_iloadn (pc := 6) (i0 := 1) (j := 1) (dK D_Mo_setForm 4 rfl) rfl rfl ?_
  refine vg_imul (pc := 7) (dK D_Mo_setForm 5 rfl) ?_
  refine vg_iadd (pc := 8) (dK D_Mo_setForm 6 rfl) ?_
  refine g_iloadn (pc := 9) (i0 := 2) (j := 2) (dK D_Mo_setForm 7 rfl) rfl rfl ?_
  refine vg_iadd (pc := 10) (dK D_Mo_setForm 8 rfl) ?_
  refine g_iloadn (pc := 11) (i0 := 3) (j := 3) (dK D_Mo_setForm 9 rfl) rfl rfl ?_
  refine gdE h (fun hi1 h => ?_)
  refine nmE h (fun S2 e_S2 h => ?_)
  refine vg_iastore (pc := 12) (z := a3) (dK D_Mo_setForm 10 rfl) (hw_11_0 hc0) rfl hi1 rfl e_S2 ?_
  exact g_return (pc := 13) (dK D_Mo_setForm 11 rfl) rfl (leK rfl) (leK rfl) (fun _ => rfl) (by obtain rfl := Option.some.inj h; exact ⟨rfl, rfl⟩)
def jf_Mo_setColor_19 (c0 : Nat) (a1 : Int) (a2 : Int) (t0 : Int) (d1 : Nat) (S : St) : Option (Bool × St) := bnO (fn_Mo_throwsIf d1 t0 1 S) fun p4 => if p4.1 = true then (some (false, p4.2)) else (bnO (fn_Mo_ofForm c0 a1 1 p4.2) fun p6 => if p6 = 1 then (some (false, p4.2)) else (if a2 = 0 then (bnO (fn_Mo_hasColored c0 a1 p4.2) fun p11 => if p11 = true then (some (false, p4.2)) else (bnO (fn_Mo_record c0 p4.2) fun p13 => if a2 = 0 then (bnO (fn_Mo_setForm c0 a1 0 0 p13) fun p14 => some (true, p14)) else (bnO (fn_Mo_setForm c0 a1 0 1 p13) fun p15 => some (true, p15)))) else (bnO (fn_Mo_record c0 p4.2) fun p7 => if a2 = 0 then (bnO (fn_Mo_setForm c0 a1 0 0 p7) fun p8 => some (true, p8)) else (bnO (fn_Mo_setForm c0 a1 0 1 p7) fun p9 => some (true, p9)))))
theorem tj_Mo_setColor_19 {E : EV} {X : XT} {c0 : Nat} (hc0 : HC X 11 c0) {a1 : Int} (ha1 : inR a1) {a2 : Int} (ha2 : inR a2) {t0 : Int} (ht0 : inR t0) {d1 : Nat} (hd1 : HC X 11 d1) {S : St} {q : Bool × St} (h : jf_Mo_setColor_19 c0 a1 a2 t0 d1 S = some q) : Go E M_Mo_setColor 0 0 19 [(0, .ref c0), (1, V a1), (2, V a2)] [V t0, .ref d1] (WX X S) 0 0 (KB X q.1 q.2) := by
  unfold jf_Mo_setColor_19 at h
  refine vg_iconst (pc := 19) (dK D_Mo_setColor 11 rfl) ?_
  refine bnE h (fun p4 e_p4 h => ?_)
  refine vg_cV (pc := 20) (As := [V t0, V 1]) (rest := []) (mc' := 0) (ms' := 0) (dK D_Mo_setColor 12 rfl) K_Mo_125 (fitK rfl) (ltK rfl) hd1 rfl (leK rfl) (leK rfl) (leK rfl) (tf_Mo_throwsIf hd1 ht0 (inRk rfl) e_p4) (kcB ?_)
  refine vg_ifB_ne (pc := 23) (b := p4.1) (t := 48) (dK D_Mo_setColor 13 rfl) rfl (fun hc5 => ?_) (fun hc5 => ?_)
  · replace h := ifP h hc5
    refine vg_iconst (pc := 48) (dK D_Mo_setColor 26 rfl) ?_
    exact vg_iretB (pc := 49) (b := false) (dK D_Mo_setColor 27 rfl) rfl (leK rfl) (leK rfl) (fun _ => rfl) (by obtain rfl := Option.some.inj h; exact ⟨rfl, rfl⟩)
  · replace h := ifN h hc5
    refine g_aloadn (pc := 26) (i0 := 0) (j := 0) (dK D_Mo_setColor 14 rfl) rfl rfl ?_
    refine g_iloadn (pc := 27) (i0 := 1) (j := 1) (dK D_Mo_setColor 15 rfl) rfl rfl ?_
    refine vg_iconst (pc := 28) (dK D_Mo_setColor 16 rfl) ?_
    refine bnE h (fun p6 e_p6 h => ?_)
    refine vg_cV (pc := 29) (As := [V a1, V 1]) (rest := []) (mc' := 0) (ms' := 0) (dK D_Mo_setColor 17 rfl) K_Mo_78 (fitK rfl) (ltK rfl) hc0 rfl (leK rfl) (leK rfl) (leK rfl) (tf_Mo_ofForm hc0 ha1 (inRk rfl) e_p6) (kcI (fun h_p6 => ?_))
    refine vg_iconst (pc := 32) (dK D_Mo_setColor 18 rfl) ?_
    refine vg_icmp_eq (pc := 33) (t := 48) (dK D_Mo_setColor 19 rfl) rfl h_p6 (inRk rfl) (fun hc18 => ?_) (fun hc18 => ?_)
    · replace h := ifP h hc18
      refine vg_iconst (pc := 48) (dK D_Mo_setColor 26 rfl) ?_
      exact vg_iretB (pc := 49) (b := false) (dK D_Mo_setColor 27 rfl) rfl (leK rfl) (leK rfl) (fun _ => rfl) (by obtain rfl := Option.some.inj h; exact ⟨rfl, rfl⟩)
    · replace h := ifN h hc18
      refine g_iloadn (pc := 36) (i0 := 2) (j := 2) (dK D_Mo_setColor 20 rfl) rfl rfl ?_
      refine vg_if_ne (pc := 37) (t := 50) (dK D_Mo_setColor 21 rfl) rfl ha2 (fun hc17 => ?_) (fun hc17 => ?_)
      · replace h := ifN h hc17
        refine g_aloadn (pc := 50) (i0 := 0) (j := 0) (dK D_Mo_setColor 28 rfl) rfl rfl ?_
        refine bnE h (fun p7 e_p7 h => ?_)
        refine vg_cV (pc := 51) (As := []) (rest := []) (mc' := 0) (ms' := 0) (dK D_Mo_setColor 29 rfl) K_Mo_159 (fitK rfl) (ltK rfl) hc0 rfl (leK rfl) (leK rfl) (leK rfl) (tf_Mo_record hc0 e_p7) (kcU ?_)
        refine g_aloadn (pc := 54) (i0 := 0) (j := 0) (dK D_Mo_setColor 30 rfl) rfl rfl ?_
        refine g_iloadn (pc := 55) (i0 := 1) (j := 1) (dK D_Mo_setColor 31 rfl) rfl rfl ?_
        refine vg_iconst (pc := 56) (dK D_Mo_setColor 32 rfl) ?_
        refine g_iloadn (pc := 57) (i0 := 2) (j := 2) (dK D_Mo_setColor 33 rfl) rfl rfl ?_
        refine vg_if_eq (pc := 58) (t := 65) (dK D_Mo_setColor 34 rfl) rfl ha2 (fun hc10 => ?_) (fun hc10 => ?_)
        · replace h := ifP h hc10
          refine vg_iconst (pc := 65) (dK D_Mo_setColor 37 rfl) ?_
          refine bnE h (fun p8 e_p8 h => ?_)
          refine vg_cV (pc := 66) (As := [V a1, V 0, V 0]) (rest := []) (mc' := 0) (ms' := 0) (dK D_Mo_setColor 38 rfl) K_Mo_232 (fitK rfl) (ltK rfl) hc0 rfl (leK rfl) (leK rfl) (leK rfl) (tf_Mo_setForm hc0 ha1 (inRk rfl) (inRk rfl) e_p8) (kcU ?_)
          refine vg_iconst (pc := 69) (dK D_Mo_setColor 39 rfl) ?_
          exact vg_iretB (pc := 70) (b := true) (dK D_Mo_setColor 40 rfl) rfl (leK rfl) (leK rfl) (fun _ => rfl) (by obtain rfl := Option.some.inj h; exact ⟨rfl, rfl⟩)
        · replace h := ifN h hc10
          refine vg_iconst (pc := 61) (dK D_Mo_setColor 35 rfl) ?_
          refine g_goto (pc := 62) (tgt := 66) (dK D_Mo_setColor 36 rfl) rfl ?_
          refine bnE h (fun p9 e_p9 h => ?_)
          refine vg_cV (pc := 66) (As := [V a1, V 0, V 1]) (rest := []) (mc' := 0) (ms' := 0) (dK D_Mo_setColor 38 rfl) K_Mo_232 (fitK rfl) (ltK rfl) hc0 rfl (leK rfl) (leK rfl) (leK rfl) (tf_Mo_setForm hc0 ha1 (inRk rfl) (inRk rfl) e_p9) (kcU ?_)
          refine vg_iconst (pc := 69) (dK D_Mo_setColor 39 rfl) ?_
          exact vg_iretB (pc := 70) (b := true) (dK D_Mo_setColor 40 rfl) rfl (leK rfl) (leK rfl) (fun _ => rfl) (by obtain rfl := Option.some.inj h; exact ⟨rfl, rfl⟩)
      · replace h := ifP h hc17
        refine g_aloadn (pc := 40) (i0 := 0) (j := 0) (dK D_Mo_setColor 22 rfl) rfl rfl ?_
        refine g_iloadn (pc := 41) (i0 := 1) (j := 1) (dK D_Mo_setColor 23 rfl) rfl rfl ?_
        refine bnE h (fun p11 e_p11 h => ?_)
        refine vg_cV (pc := 42) (As := [V a1]) (rest := []) (mc' := 0) (ms' := 0) (dK D_Mo_setColor 24 rfl) K_Mo_211 (fitK rfl) (ltK rfl) hc0 rfl (leK rfl) (leK rfl) (leK rfl) (tf_Mo_hasColored hc0 ha1 e_p11) (kcB ?_)
        refine vg_ifB_eq (pc := 45) (b := p11) (t := 50) (dK D_Mo_setColor 25 rfl) rfl (fun hc12 => ?_) (fun hc12 => ?_)
        · replace h := ifP h hc12
          refine vg_iconst (pc := 48) (dK D_Mo_setColor 26 rfl) ?_
          exact vg_iretB (pc := 49) (b := false) (dK D_Mo_setColor 27 rfl) rfl (leK rfl) (leK rfl) (fun _ => rfl) (by obtain rfl := Option.some.inj h; exact ⟨rfl, rfl⟩)
        · replace h := ifN h hc12
          refine g_aloadn (pc := 50) (i0 := 0) (j := 0) (dK D_Mo_setColor 28 rfl) rfl rfl ?_
          refine bnE h (fun p13 e_p13 h => ?_)
          refine vg_cV (pc := 51) (As := []) (rest := []) (mc' := 0) (ms' := 0) (dK D_Mo_setColor 29 rfl) K_Mo_159 (fitK rfl) (ltK rfl) hc0 rfl (leK rfl) (leK rfl) (leK rfl) (tf_Mo_record hc0 e_p13) (kcU ?_)
          refine g_aloadn (pc := 54) (i0 := 0) (j := 0) (dK D_Mo_setColor 30 rfl) rfl rfl ?_
          refine g_iloadn (pc := 55) (i0 := 1) (j := 1) (dK D_Mo_setColor 31 rfl) rfl rfl ?_
          refine vg_iconst (pc := 56) (dK D_Mo_setColor 32 rfl) ?_
          refine g_iloadn (pc := 57) (i0 := 2) (j := 2) (dK D_Mo_setColor 33 rfl) rfl rfl ?_
          refine vg_if_eq (pc := 58) (t := 65) (dK D_Mo_setColor 34 rfl) rfl ha2 (fun hc16 => ?_) (fun hc16 => ?_)
          · replace h := ifP h hc16
            refine vg_iconst (pc := 65) (dK D_Mo_setColor 37 rfl) ?_
            refine bnE h (fun p14 e_p14 h => ?_)
            refine vg_cV (pc := 66) (As := [V a1, V 0, V 0]) (rest := []) (mc' := 0) (ms' := 0) (dK D_Mo_setColor 38 rfl) K_Mo_232 (fitK rfl) (ltK rfl) hc0 rfl (leK rfl) (leK rfl) (leK rfl) (tf_Mo_setForm hc0 ha1 (inRk rfl) (inRk rfl) e_p14) (kcU ?_)
            refine vg_iconst (pc := 69) (dK D_Mo_setColor 39 rfl) ?_
            exact vg_iretB (pc := 70) (b := true) (dK D_Mo_setColor 40 rfl) rfl (leK rfl) (leK rfl) (fun _ => rfl) (by obtain rfl := Option.some.inj h; exact ⟨rfl, rfl⟩)
          · replace h := ifN h hc16
            refine vg_iconst (pc := 61) (dK D_Mo_setColor 35 rfl) ?_
            refine g_goto (pc := 62) (tgt := 66) (dK D_Mo_setColor 36 rfl) rfl ?_
            refine bnE h (fun p15 e_p15 h => ?_)
            refine vg_cV (pc := 66) (As := [V a1, V 0, V 1]) (rest := []) (mc' := 0) (ms' := 0) (dK D_Mo_setColor 38 rfl) K_Mo_232 (fitK rfl) (ltK rfl) hc0 rfl (leK rfl) (leK rfl) (leK rfl) (tf_Mo_setForm hc0 ha1 (inRk rfl) (inRk rfl) e_p15) (kcU ?_)
            refine vg_iconst (pc := 69) (dK D_Mo_setColor 39 rfl) ?_
            exact vg_iretB (pc := 70) (b := true) (dK D_Mo_setColor 40 rfl) rfl (leK rfl) (leK rfl) (fun _ => rfl) (by obtain rfl := Option.some.inj h; exact ⟨rfl, rfl⟩)
def fn_Mo_setColor (c0 : Nat) (a1 : Int) (a2 : Int) (S : St) : Option (Bool × St) := nm (u S c0 4 0) fun S1 => bnO (fn_Mo_isForm c0 a1 S1) fun p2 => if p2 = true then (jf_Mo_setColor_19 c0 a1 a2 0 c0 S1) else (jf_Mo_setColor_19 c0 a1 a2 1 c0 S1)
theorem tf_Mo_setColor {E : EV} {X : XT} {c0 : Nat} (hc0 : HC X 11 c0) {a1 : Int} (ha1 : inR a1) {a2 : Int} (ha2 : inR a2) {S : St} {q : Bool × St} (h : fn_Mo_setColor c0 a1 a2 S = some q) : Ev E M_Mo_setColor [.ref c0, V a1, V a2] (WX X S) 0 0 (KB X q.1 q.2) := by
  refine Ev.of pn_Mo rfl (leK rfl) ?_
  show Go E M_Mo_setColor 0 0 0 [(0, .ref c0), (1, V a1), (2, V a2)] [] (WX X S) 0 0 (KB X q.1 q.2)
  unfold fn_Mo_setColor at h
  refine g_aloadn (pc := 0) (i0 := 0) (j := 0) (dK D_Mo_setColor 0 rfl) rfl rfl ?_
  refine vg_iconst (pc := 1) (dK D_Mo_setColor 1 rfl) ?_
  refine nmE h (fun S1 e_S1 h => ?_)
  refine vg_putI (pc := 2) (ci := 11) (f := 4) (z := 0) (dK D_Mo_setColor 2 rfl) q_1446 hc0 (ltK rfl) (ltK rfl) rfl rfl e_S1 ?_
  refine g_aloadn (pc := 5) (i0 := 0) (j := 0) (dK D_Mo_setColor 3 rfl) rfl rfl ?_
  refine g_aloadn (pc := 6) (i0 := 0) (j := 0) (dK D_Mo_setColor 4 rfl) rfl rfl ?_
  refine g_iloadn (pc := 7) (i0 := 1) (j := 1) (dK D_Mo_setColor 5 rfl) rfl rfl ?_
  refine bnE h (fun p2 e_p2 h => ?_)
  refine vg_cV (pc := 8) (As := [V a1]) (rest := [.ref c0]) (mc' := 0) (ms' := 0) (dK D_Mo_setColor 6 rfl) K_Mo_199 (fitK rfl) (ltK rfl) hc0 rfl (leK rfl) (leK rfl) (leK rfl) (tf_Mo_isForm hc0 ha1 e_p2) (kcB ?_)
  refine vg_ifB_ne (pc := 11) (b := p2) (t := 18) (dK D_Mo_setColor 7 rfl) rfl (fun hc3 => ?_) (fun hc3 => ?_)
  · replace h := ifP h hc3
    refine vg_iconst (pc := 18) (dK D_Mo_setColor 10 rfl) ?_
    exact tj_Mo_setColor_19 hc0 ha1 ha2 (inRk rfl) hc0 h
  · replace h := ifN h hc3
    refine vg_iconst (pc := 14) (dK D_Mo_setColor 8 rfl) ?_
    refine g_goto (pc := 15) (tgt := 19) (dK D_Mo_setColor 9 rfl) rfl ?_
    exact tj_Mo_setColor_19 hc0 ha1 ha2 (inRk rfl) hc0 h
def lb_Mo_freeStandby_2 (c0 : Nat) (a1 : Int) (S : St) (go : Int → Option ((Int) ⊕ (Unit))) (a2 : Int) : Option ((Int) ⊕ (Unit)) := if (g S (tgt c0 0) 3) ≤ a2 then (some (.inr ())) else (bnO (fn_Mo_ofStandby c0 a2 1 S) fun p1 => if p1 = 0 then (bnO (fn_Mo_ofStandby c0 a2 0 S) fun p3 => if p3 = a1 then (some (.inl a2)) else (nm (wr (a2 + 1)) fun v4 => go v4)) else (nm (wr (a2 + 1)) fun v2 => go v2))
def lo_Mo_freeStandby_2 (c0 : Nat) (a1 : Int) (S : St) : Nat → Int → Option ((Int) ⊕ (Unit)) := lp fun go p => lb_Mo_freeStandby_2 c0 a1 S go p
theorem tl_Mo_freeStandby_2 {E : EV} {X : XT} {c0 : Nat} (hc0 : HC X 11 c0) {a1 : Int} (ha1 : inR a1) {S : St} {K : RK → PS → Prop} {q : (Int) ⊕ (Unit)} (hx : ∀ p, q = .inr p → Go E M_Mo_freeStandby 0 0 39 [] [] (WX X S) 0 0 K) (hr : ∀ p, q = .inl p → inR p → K (.inl (some (V p))) (WX X S)) : ∀ n a, lo_Mo_freeStandby_2 c0 a1 S n a = some q → inR a → Go E M_Mo_freeStandby 0 0 2 [(0, .ref c0), (1, V a1), (2, V a)] [] (WX X S) 0 0 K := by
  refine lp_ind (P := fun a : Int => inR a → Go E M_Mo_freeStandby 0 0 2 [(0, .ref c0), (1, V a1), (2, V a)] [] (WX X S) 0 0 K) (fun go ih a2 h => ?_)
  intro ha2
  show Go E M_Mo_freeStandby 0 0 2 [(0, .ref c0), (1, V a1), (2, V a2)] [] (WX X S) 0 0 K
  replace h : lb_Mo_freeStandby_2 c0 a1 S go a2 = some q := h
  unfold lb_Mo_freeStandby_2 at h
  refine g_iloadn (pc := 2) (i0 := 2) (j := 2) (dK D_Mo_freeStandby 2 rfl) rfl rfl ?_
  refine g_aloadn (pc := 3) (i0 := 0) (j := 0) (dK D_Mo_freeStandby 3 rfl) rfl rfl ?_
  refine vg_getA (pc := 4) (ci := 11) (f := 0) (dK D_Mo_freeStandby 4 rfl) q_1442 hc0 (ltK rfl) (ltK rfl) rfl ?_
  refine vg_iconst (pc := 7) (dK D_Mo_freeStandby 5 rfl) ?_
  refine vg_iaload (pc := 8) (j := 3) (dK D_Mo_freeStandby 6 rfl) (hw_11_0 hc0) rfl ⟨by decide, by decide⟩ rfl ?_
  refine vg_icmp_ge (pc := 9) (t := 39) (dK D_Mo_freeStandby 7 rfl) rfl ha2 (g_in _ _ _) (fun hc7 => ?_) (fun hc7 => ?_)
  · replace h := ifP h hc7
    refine gL_weak (ls' := []) sbn ?_
    exact hx _ (Option.some.inj h).symm 
  · replace h := ifN h hc7
    refine g_aloadn (pc := 12) (i0 := 0) (j := 0) (dK D_Mo_freeStandby 8 rfl) rfl rfl ?_
    refine g_iloadn (pc := 13) (i0 := 2) (j := 2) (dK D_Mo_freeStandby 9 rfl) rfl rfl ?_
    refine vg_iconst (pc := 14) (dK D_Mo_freeStandby 10 rfl) ?_
    refine bnE h (fun p1 e_p1 h => ?_)
    refine vg_cV (pc := 15) (As := [V a2, V 1]) (rest := []) (mc' := 0) (ms' := 0) (dK D_Mo_freeStandby 11 rfl) K_Mo_92 (fitK rfl) (ltK rfl) hc0 rfl (leK rfl) (leK rfl) (leK rfl) (tf_Mo_ofStandby hc0 ha2 (inRk rfl) e_p1) (kcI (fun h_p1 => ?_))
    refine vg_if_ne (pc := 18) (t := 33) (dK D_Mo_freeStandby 12 rfl) rfl h_p1 (fun hc6 => ?_) (fun hc6 => ?_)
    · replace h := ifN h hc6
      refine nmE h (fun v2 e_v2 h => ?_)
      refine vg_iinc (pc := 33) (j := 2) (a := a2) (z := 1) (ls2 := [(2, V v2), (0, .ref c0), (1, V a1)]) (dK D_Mo_freeStandby 21 rfl) rfl e_v2 (ltK rfl) rfl ?_
      refine g_goto (pc := 36) (tgt := 2) (dK D_Mo_freeStandby 22 rfl) rfl ?_
      refine gL_weak (ls' := [(0, .ref c0), (1, V a1), (2, V v2)]) (sbc 1 rfl (sbc 2 rfl (sbc 0 rfl sbn))) ?_
      replace h := ih _ h
      exact h (Vn_in e_v2)
    · replace h := ifP h hc6
      refine g_aloadn (pc := 21) (i0 := 0) (j := 0) (dK D_Mo_freeStandby 13 rfl) rfl rfl ?_
      refine g_iloadn (pc := 22) (i0 := 2) (j := 2) (dK D_Mo_freeStandby 14 rfl) rfl rfl ?_
      refine vg_iconst (pc := 23) (dK D_Mo_freeStandby 15 rfl) ?_
      refine bnE h (fun p3 e_p3 h => ?_)
      refine vg_cV (pc := 24) (As := [V a2, V 0]) (rest := []) (mc' := 0) (ms' := 0) (dK D_Mo_freeStandby 16 rfl) K_Mo_92 (fitK rfl) (ltK rfl) hc0 rfl (leK rfl) (leK rfl) (leK rfl) (tf_Mo_ofStandby hc0 ha2 (inRk rfl) e_p3) (kcI (fun h_p3 => ?_))
      refine g_iloadn (pc := 27) (i0 := 1) (j := 1) (dK D_Mo_freeStandby 17 rfl) rfl rfl ?_
      refine vg_icmp_ne (pc := 28) (t := 33) (dK D_Mo_freeStandby 18 rfl) rfl h_p3 ha1 (fun hc5 => ?_) (fun hc5 => ?_)
      · replace h := ifN h hc5
        refine nmE h (fun v4 e_v4 h => ?_)
        refine vg_iinc (pc := 33) (j := 2) (a := a2) (z := 1) (ls2 := [(2, V v4), (0, .ref c0), (1, V a1)]) (dK D_Mo_freeStandby 21 rfl) rfl e_v4 (ltK rfl) rfl ?_
        refine g_goto (pc := 36) (tgt := 2) (dK D_Mo_freeStandby 22 rfl) rfl ?_
        refine gL_weak (ls' := [(0, .ref c0), (1, V a1), (2, V v4)]) (sbc 1 rfl (sbc 2 rfl (sbc 0 rfl sbn))) ?_
        replace h := ih _ h
        exact h (Vn_in e_v4)
      · replace h := ifP h hc5
        refine g_iloadn (pc := 31) (i0 := 2) (j := 2) (dK D_Mo_freeStandby 19 rfl) rfl rfl ?_
        exact vg_iretI (pc := 32) (r := a2) (dK D_Mo_freeStandby 20 rfl) rfl (leK rfl) (leK rfl) (fun _ => rfl) (hr _ (Option.some.inj h).symm ha2)
def fn_Mo_freeStandby (c0 : Nat) (a1 : Int) (S : St) : Option (Int) := bnS (lo_Mo_freeStandby_2 c0 a1 S FU 0) (fun p9 => some p9) fun p8 => some (-1)
theorem tf_Mo_freeStandby {E : EV} {X : XT} {c0 : Nat} (hc0 : HC X 11 c0) {a1 : Int} (ha1 : inR a1) {S : St} {q : Int} (h : fn_Mo_freeStandby c0 a1 S = some q) : Ev E M_Mo_freeStandby [.ref c0, V a1] (WX X S) 0 0 (KI X q S) := by
  refine Ev.of pn_Mo rfl (leK rfl) ?_
  show Go E M_Mo_freeStandby 0 0 0 [(0, .ref c0), (1, V a1)] [] (WX X S) 0 0 (KI X q S)
  unfold fn_Mo_freeStandby at h
  refine vg_iconst (pc := 0) (dK D_Mo_freeStandby 0 rfl) ?_
  refine g_istoren (pc := 1) (i0 := 2) (ls2 := [(2, V 0), (0, .ref c0), (1, V a1)]) (dK D_Mo_freeStandby 1 rfl) rfl (ltK rfl) rfl ?_
  refine bnSE h (fun p9 e_p9 h => ?_) (fun p8 e_p8 h => ?_)
  · refine gL_weak (ls' := [(0, .ref c0), (1, V a1), (2, V 0)]) (sbc 1 rfl (sbc 2 rfl (sbc 0 rfl sbn))) ?_
    refine tl_Mo_freeStandby_2 hc0 ha1 (fun _ e => slr e) (fun p e hr_p9 => ?_) FU 0 e_p9 (inRk rfl)
    have e := Sum.inl.inj e
    subst e
    exact (by obtain rfl := Option.some.inj h; exact ⟨rfl, hr_p9, rfl⟩)
  · refine gL_weak (ls' := [(0, .ref c0), (1, V a1), (2, V 0)]) (sbc 1 rfl (sbc 2 rfl (sbc 0 rfl sbn))) ?_
    refine tl_Mo_freeStandby_2 hc0 ha1 (fun p e => ?_) (fun _ e => srl e) FU 0 e_p8 (inRk rfl)
    have e := Sum.inr.inj e
    subst e
    refine vg_iconst (pc := 39) (dK D_Mo_freeStandby 23 rfl) ?_
    exact vg_iretI (pc := 40) (r := (-1)) (dK D_Mo_freeStandby 24 rfl) rfl (leK rfl) (leK rfl) (fun _ => rfl) (by obtain rfl := Option.some.inj h; exact ⟨rfl, (inRk rfl), rfl⟩)
def lb_Mo_close_2 (c0 : Nat) (a1 : Int) (go : Int × St → Option (St)) (a2 : Int) (S : St) : Option (St) := if (g S (tgt c0 0) 2) ≤ a2 then (some S) else (bnO (fn_Mo_isStoryLate c0 a2 S) fun p1 => if p1 = true then (bnO (fn_Mo_hasPageOn c0 a2 a1 S) fun p4 => if p4 = true then (if 0 ≤ ((309 + (5 * a2)) + 4) ∧ ((309 + (5 * a2)) + 4) < 8740 then (nm (u S (tgt c0 0) ((((309 + (5 * a2)) + 4)).toNat) 0) fun S8 => nm (wr (a2 + 1)) fun v9 => go (v9, S8)) else none) else (nm (wr (a2 + 1)) fun v6 => go (v6, S))) else (nm (wr (a2 + 1)) fun v3 => go (v3, S)))
def lo_Mo_close_2 (c0 : Nat) (a1 : Int) : Nat → Int × St → Option (St) := lp fun go p => lb_Mo_close_2 c0 a1 go p.1 p.2
theorem tl_Mo_close_2 {E : EV} {X : XT} {c0 : Nat} (hc0 : HC X 11 c0) {a1 : Int} (ha1 : inR a1) {K : RK → PS → Prop} {q : St} (hx : Go E M_Mo_close 0 0 50 [(0, .ref c0), (1, V a1)] [] (WX X q) 0 0 K) : ∀ n a, lo_Mo_close_2 c0 a1 n a = some q → inR a.1 → Go E M_Mo_close 0 0 2 [(0, .ref c0), (1, V a1), (2, V a.1)] [] (WX X a.2) 0 0 K := by
  refine lp_ind (P := fun a : Int × St => inR a.1 → Go E M_Mo_close 0 0 2 [(0, .ref c0), (1, V a1), (2, V a.1)] [] (WX X a.2) 0 0 K) (fun go ih a h => ?_)
  obtain ⟨a2, S⟩ := a
  intro ha2
  show Go E M_Mo_close 0 0 2 [(0, .ref c0), (1, V a1), (2, V a2)] [] (WX X S) 0 0 K
  replace h : lb_Mo_close_2 c0 a1 go a2 S = some q := h
  unfold lb_Mo_close_2 at h
  refine g_iloadn (pc := 2) (i0 := 2) (j := 2) (dK D_Mo_close_0 2 rfl) rfl rfl ?_
  refine g_aloadn (pc := 3) (i0 := 0) (j := 0) (dK D_Mo_close_0 3 rfl) rfl rfl ?_
  refine vg_getA (pc := 4) (ci := 11) (f := 0) (dK D_Mo_close_0 4 rfl) q_1442 hc0 (ltK rfl) (ltK rfl) rfl ?_
  refine vg_iconst (pc := 7) (dK D_Mo_close_0 5 rfl) ?_
  refine vg_iaload (pc := 8) (j := 2) (dK D_Mo_close_0 6 rfl) (hw_11_0 hc0) rfl ⟨by decide, by decide⟩ rfl ?_
  refine vg_icmp_ge (pc := 9) (t := 50) (dK D_Mo_close_0 7 rfl) rfl ha2 (g_in _ _ _) (fun hc10 => ?_) (fun hc10 => ?_)
  · replace h := ifP h hc10
    obtain rfl := Option.some.inj h
    refine gL_weak (ls' := [(0, .ref c0), (1, V a1)]) (sbc 0 rfl (sbc 1 rfl sbn)) ?_
    exact hx 
  · replace h := ifN h hc10
    refine g_aloadn (pc := 12) (i0 := 0) (j := 0) (dK D_Mo_close_0 8 rfl) rfl rfl ?_
    refine g_iloadn (pc := 13) (i0 := 2) (j := 2) (dK D_Mo_close_0 9 rfl) rfl rfl ?_
    refine bnE h (fun p1 e_p1 h => ?_)
    refine vg_cV (pc := 14) (As := [V a2]) (rest := []) (mc' := 0) (ms' := 0) (dK D_Mo_close_0 10 rfl) K_Mo_178 (fitK rfl) (ltK rfl) hc0 rfl (leK rfl) (leK rfl) (leK rfl) (tf_Mo_isStoryLate hc0 ha2 e_p1) (kcB ?_)
    refine vg_ifB_eq (pc := 17) (b := p1) (t := 44) (dK D_Mo_close_0 11 rfl) rfl (fun hc2 => ?_) (fun hc2 => ?_)
    · replace h := ifP h hc2
      refine g_aloadn (pc := 20) (i0 := 0) (j := 0) (dK D_Mo_close_0 12 rfl) rfl rfl ?_
      refine g_iloadn (pc := 21) (i0 := 2) (j := 2) (dK D_Mo_close_0 13 rfl) rfl rfl ?_
      refine g_iloadn (pc := 22) (i0 := 1) (j := 1) (dK D_Mo_close_0 14 rfl) rfl rfl ?_
      refine bnE h (fun p4 e_p4 h => ?_)
      refine vg_cV (pc := 23) (As := [V a2, V a1]) (rest := []) (mc' := 0) (ms' := 0) (dK D_Mo_close_0 15 rfl) K_Mo_196 (fitK rfl) (ltK rfl) hc0 rfl (leK rfl) (leK rfl) (leK rfl) (tf_Mo_hasPageOn hc0 ha2 ha1 e_p4) (kcB ?_)
      refine vg_ifB_eq (pc := 26) (b := p4) (t := 44) (dK D_Mo_close_0 16 rfl) rfl (fun hc5 => ?_) (fun hc5 => ?_)
      · replace h := ifP h hc5
        refine g_aloadn (pc := 29) (i0 := 0) (j := 0) (dK D_Mo_close_0 17 rfl) rfl rfl ?_
        refine vg_getA (pc := 30) (ci := 11) (f := 0) (dK D_Mo_close_0 18 rfl) q_1442 hc0 (ltK rfl) (ltK rfl) rfl ?_
        refine vg_sipush (pc := 33) (dK D_Mo_close_0 19 rfl) rfl ?_
        refine vg_iconst (pc := 36) (dK D_Mo_close_0 20 rfl) ?_
        refine g_iloadn (pc := 37) (i0 := 2) (j := 2) (dK D_Mo_close_0 21 rfl) rfl rfl ?_
        refine vg_imul (pc := 38) (dK D_Mo_close_0 22 rfl) ?_
        refine vg_iadd (pc := 39) (dK D_Mo_close_0 23 rfl) ?_
        refine vg_iconst (pc := 40) (dK D_Mo_close_0 24 rfl) ?_
        refine vg_iadd (pc := 41) (dK D_Mo_close_0 25 rfl) ?_
        refine vg_iconst (pc := 42) (dK D_Mo_close_0 26 rfl) ?_
        refine gdE h (fun hi7 h => ?_)
        refine nmE h (fun S8 e_S8 h => ?_)
        refine vg_iastore (pc := 43) (z := 0) (dK D_Mo_close_0 27 rfl) (hw_11_0 hc0) rfl hi7 rfl e_S8 ?_
        refine nmE h (fun v9 e_v9 h => ?_)
        refine vg_iinc (pc := 44) (j := 2) (a := a2) (z := 1) (ls2 := [(2, V v9), (0, .ref c0), (1, V a1)]) (dK D_Mo_close_0 28 rfl) rfl e_v9 (ltK rfl) rfl ?_
        refine g_goto (pc := 47) (tgt := 2) (dK D_Mo_close_0 29 rfl) rfl ?_
        refine gL_weak (ls' := [(0, .ref c0), (1, V a1), (2, V v9)]) (sbc 1 rfl (sbc 2 rfl (sbc 0 rfl sbn))) ?_
        replace h := ih _ h
        exact h (Vn_in e_v9)
      · replace h := ifN h hc5
        refine nmE h (fun v6 e_v6 h => ?_)
        refine vg_iinc (pc := 44) (j := 2) (a := a2) (z := 1) (ls2 := [(2, V v6), (0, .ref c0), (1, V a1)]) (dK D_Mo_close_0 28 rfl) rfl e_v6 (ltK rfl) rfl ?_
        refine g_goto (pc := 47) (tgt := 2) (dK D_Mo_close_0 29 rfl) rfl ?_
        refine gL_weak (ls' := [(0, .ref c0), (1, V a1), (2, V v6)]) (sbc 1 rfl (sbc 2 rfl (sbc 0 rfl sbn))) ?_
        replace h := ih _ h
        exact h (Vn_in e_v6)
    · replace h := ifN h hc2
      refine nmE h (fun v3 e_v3 h => ?_)
      refine vg_iinc (pc := 44) (j := 2) (a := a2) (z := 1) (ls2 := [(2, V v3), (0, .ref c0), (1, V a1)]) (dK D_Mo_close_0 28 rfl) rfl e_v3 (ltK rfl) rfl ?_
      refine g_goto (pc := 47) (tgt := 2) (dK D_Mo_close_0 29 rfl) rfl ?_
      refine gL_weak (ls' := [(0, .ref c0), (1, V a1), (2, V v3)]) (sbc 1 rfl (sbc 2 rfl (sbc 0 rfl sbn))) ?_
      replace h := ih _ h
      exact h (Vn_in e_v3)
def lb_Mo_close_62 (c0 : Nat) (a1 : Int) (a2 : Int) (go : Int × St → Option (St)) (a3 : Int) (S : St) : Option (St) := if (g S (tgt c0 0) 1) ≤ a3 then (some S) else (bnO (fn_Mo_formOf c0 a2 S) fun p13 => if p13 = a1 then (bnO (fn_Mo_ofAd c0 a3 6 S) fun p14 => if p14 = a2 then (bnO (fn_Mo_isAdLate c0 a3 S) fun p16 => if p16 = true then (bnO (fn_Mo_setOfAd c0 a3 6 0 S) fun p18 => bnO (fn_Mo_ofAd c0 a3 4 p18) fun p19 => nm (u p18 (tgt c0 0) 4 ((g p18 (tgt c0 0) 4) + p19)) fun S20 => bnO (fn_Mo_ofAd c0 a3 0 S20) fun p21 => bnO (fn_Mo_freeStandby c0 p21 S20) fun p22 => if p22 = (-1) then (nm (wr (a3 + 1)) fun v23 => go (v23, S20)) else (bnO (fn_Mo_setStandby c0 p22 a2 S20) fun p24 => nm (wr (a3 + 1)) fun v25 => go (v25, p24))) else (nm (wr (a3 + 1)) fun v27 => go (v27, S))) else (nm (wr (a3 + 1)) fun v15 => go (v15, S))) else (some S))
def lo_Mo_close_62 (c0 : Nat) (a1 : Int) (a2 : Int) : Nat → Int × St → Option (St) := lp fun go p => lb_Mo_close_62 c0 a1 a2 go p.1 p.2
theorem tl_Mo_close_62 {E : EV} {X : XT} {c0 : Nat} (hc0 : HC X 11 c0) {a1 : Int} (ha1 : inR a1) {a2 : Int} (ha2 : inR a2) {K : RK → PS → Prop} {q : St} (hx : Go E M_Mo_close 0 0 157 [(0, .ref c0), (1, V a1), (2, V a2)] [] (WX X q) 0 0 K) : ∀ n a, lo_Mo_close_62 c0 a1 a2 n a = some q → inR a.1 → Go E M_Mo_close 0 0 62 [(0, .ref c0), (1, V a1), (2, V a2), (3, V a.1)] [] (WX X a.2) 0 0 K := by
  refine lp_ind (P := fun a : Int × St => inR a.1 → Go E M_Mo_close 0 0 62 [(0, .ref c0), (1, V a1), (2, V a2), (3, V a.1)] [] (WX X a.2) 0 0 K) (fun go ih a h => ?_)
  obtain ⟨a3, S⟩ := a
  intro ha3
  show Go E M_Mo_close 0 0 62 [(0, .ref c0), (1, V a1), (2, V a2), (3, V a3)] [] (WX X S) 0 0 K
  replace h : lb_Mo_close_62 c0 a1 a2 go a3 S = some q := h
  unfold lb_Mo_close_62 at h
  refine g_iloadn (pc := 62) (i0 := 3) (j := 3) (dK D_Mo_close_0 38 rfl) rfl rfl ?_
  refine g_aloadn (pc := 63) (i0 := 0) (j := 0) (dK D_Mo_close_0 39 rfl) rfl rfl ?_
  refine vg_getA (pc := 64) (ci := 11) (f := 0) (dK D_Mo_close_0 40 rfl) q_1442 hc0 (ltK rfl) (ltK rfl) rfl ?_
  refine vg_iconst (pc := 67) (dK D_Mo_close_0 41 rfl) ?_
  refine vg_iaload (pc := 68) (j := 1) (dK D_Mo_close_0 42 rfl) (hw_11_0 hc0) rfl ⟨by decide, by decide⟩ rfl ?_
  refine vg_icmp_ge (pc := 69) (t := 157) (dK D_Mo_close_0 43 rfl) rfl ha3 (g_in _ _ _) (fun hc30 => ?_) (fun hc30 => ?_)
  · replace h := ifP h hc30
    obtain rfl := Option.some.inj h
    refine gL_weak (ls' := [(0, .ref c0), (1, V a1), (2, V a2)]) (sbc 0 rfl (sbc 1 rfl (sbc 2 rfl sbn))) ?_
    exact hx 
  · replace h := ifN h hc30
    refine g_aloadn (pc := 72) (i0 := 0) (j := 0) (dK D_Mo_close_0 44 rfl) rfl rfl ?_
    refine g_iloadn (pc := 73) (i0 := 2) (j := 2) (dK D_Mo_close_0 45 rfl) rfl rfl ?_
    refine bnE h (fun p13 e_p13 h => ?_)
    refine vg_cV (pc := 74) (As := [V a2]) (rest := []) (mc' := 0) (ms' := 0) (dK D_Mo_close_0 46 rfl) K_Mo_74 (fitK rfl) (ltK rfl) hc0 rfl (leK rfl) (leK rfl) (leK rfl) (tf_Mo_formOf hc0 ha2 e_p13) (kcI (fun h_p13 => ?_))
    refine g_iloadn (pc := 77) (i0 := 1) (j := 1) (dK D_Mo_close_0 47 rfl) rfl rfl ?_
    refine vg_icmp_ne (pc := 78) (t := 157) (dK D_Mo_close_0 48 rfl) rfl h_p13 ha1 (fun hc29 => ?_) (fun hc29 => ?_)
    · replace h := ifN h hc29
      obtain rfl := Option.some.inj h
      refine gL_weak (ls' := [(0, .ref c0), (1, V a1), (2, V a2)]) (sbc 0 rfl (sbc 1 rfl (sbc 2 rfl sbn))) ?_
      exact hx 
    · replace h := ifP h hc29
      refine g_aloadn (pc := 81) (i0 := 0) (j := 0) (dK D_Mo_close_0 49 rfl) rfl rfl ?_
      refine g_iloadn (pc := 82) (i0 := 3) (j := 3) (dK D_Mo_close_1 0 rfl) rfl rfl ?_
      refine vg_bipush (pc := 83) (dK D_Mo_close_1 1 rfl) rfl ?_
      refine bnE h (fun p14 e_p14 h => ?_)
      refine vg_cV (pc := 85) (As := [V a3, V 6]) (rest := []) (mc' := 0) (ms' := 0) (dK D_Mo_close_1 2 rfl) K_Mo_82 (fitK rfl) (ltK rfl) hc0 rfl (leK rfl) (leK rfl) (leK rfl) (tf_Mo_ofAd hc0 ha3 (inRk rfl) e_p14) (kcI (fun h_p14 => ?_))
      refine g_iloadn (pc := 88) (i0 := 2) (j := 2) (dK D_Mo_close_1 3 rfl) rfl rfl ?_
      refine vg_icmp_ne (pc := 89) (t := 151) (dK D_Mo_close_1 4 rfl) rfl h_p14 ha2 (fun hc28 => ?_) (fun hc28 => ?_)
      · replace h := ifN h hc28
        refine nmE h (fun v15 e_v15 h => ?_)
        refine vg_iinc (pc := 151) (j := 3) (a := a3) (z := 1) (ls2 := [(3, V v15), (0, .ref c0), (1, V a1), (2, V a2)]) (dK D_Mo_close_1 40 rfl) rfl e_v15 (ltK rfl) rfl ?_
        refine g_goto (pc := 154) (tgt := 62) (dK D_Mo_close_1 41 rfl) rfl ?_
        refine gL_weak (ls' := [(0, .ref c0), (1, V a1), (2, V a2), (3, V v15)]) (sbc 1 rfl (sbc 2 rfl (sbc 3 rfl (sbc 0 rfl sbn)))) ?_
        replace h := ih _ h
        exact h (Vn_in e_v15)
      · replace h := ifP h hc28
        refine g_aloadn (pc := 92) (i0 := 0) (j := 0) (dK D_Mo_close_1 5 rfl) rfl rfl ?_
        refine g_iloadn (pc := 93) (i0 := 3) (j := 3) (dK D_Mo_close_1 6 rfl) rfl rfl ?_
        refine bnE h (fun p16 e_p16 h => ?_)
        refine vg_cV (pc := 94) (As := [V a3]) (rest := []) (mc' := 0) (ms' := 0) (dK D_Mo_close_1 7 rfl) K_Mo_173 (fitK rfl) (ltK rfl) hc0 rfl (leK rfl) (leK rfl) (leK rfl) (tf_Mo_isAdLate hc0 ha3 e_p16) (kcB ?_)
        refine vg_ifB_ne (pc := 97) (b := p16) (t := 103) (dK D_Mo_close_1 8 rfl) rfl (fun hc17 => ?_) (fun hc17 => ?_)
        · replace h := ifP h hc17
          refine g_aloadn (pc := 103) (i0 := 0) (j := 0) (dK D_Mo_close_1 10 rfl) rfl rfl ?_
          refine g_iloadn (pc := 104) (i0 := 3) (j := 3) (dK D_Mo_close_1 11 rfl) rfl rfl ?_
          refine vg_bipush (pc := 105) (dK D_Mo_close_1 12 rfl) rfl ?_
          refine vg_iconst (pc := 107) (dK D_Mo_close_1 13 rfl) ?_
          refine bnE h (fun p18 e_p18 h => ?_)
          refine vg_cV (pc := 108) (As := [V a3, V 6, V 0]) (rest := []) (mc' := 0) (ms' := 0) (dK D_Mo_close_1 14 rfl) K_Mo_162 (fitK rfl) (ltK rfl) hc0 rfl (leK rfl) (leK rfl) (leK rfl) (tf_Mo_setOfAd hc0 ha3 (inRk rfl) (inRk rfl) e_p18) (kcU ?_)
          refine g_aloadn (pc := 111) (i0 := 0) (j := 0) (dK D_Mo_close_1 15 rfl) rfl rfl ?_
          refine vg_getA (pc := 112) (ci := 11) (f := 0) (dK D_Mo_close_1 16 rfl) q_1442 hc0 (ltK rfl) (ltK rfl) rfl ?_
          refine vg_iconst (pc := 115) (dK D_Mo_close_1 17 rfl) ?_
          refine g_dup2 (pc := 116) (dK D_Mo_close_1 18 rfl) rfl rfl ?_
          refine vg_iaload (pc := 117) (j := 4) (dK D_Mo_close_1 19 rfl) (hw_11_0 hc0) rfl ⟨by decide, by decide⟩ rfl ?_
          refine g_aloadn (pc := 118) (i0 := 0) (j := 0) (dK D_Mo_close_1 20 rfl) rfl rfl ?_
          refine g_iloadn (pc := 119) (i0 := 3) (j := 3) (dK D_Mo_close_1 21 rfl) rfl rfl ?_
          refine vg_iconst (pc := 120) (dK D_Mo_close_1 22 rfl) ?_
          refine bnE h (fun p19 e_p19 h => ?_)
          refine vg_cV (pc := 121) (As := [V a3, V 4]) (rest := [V (g p18 (tgt c0 0) 4), V 4, .ref (tgt c0 0)]) (mc' := 0) (ms' := 0) (dK D_Mo_close_1 23 rfl) K_Mo_82 (fitK rfl) (ltK rfl) hc0 rfl (leK rfl) (leK rfl) (leK rfl) (tf_Mo_ofAd hc0 ha3 (inRk rfl) e_p19) (kcI (fun h_p19 => ?_))
          refine vg_iadd (pc := 124) (dK D_Mo_close_1 24 rfl) ?_
          refine nmE h (fun S20 e_S20 h => ?_)
          refine vg_iastore (pc := 125) (z := ((g p18 (tgt c0 0) 4) + p19)) (dK D_Mo_close_1 25 rfl) (hw_11_0 hc0) rfl ⟨by decide, by decide⟩ rfl e_S20 ?_
          refine g_aloadn (pc := 126) (i0 := 0) (j := 0) (dK D_Mo_close_1 26 rfl) rfl rfl ?_
          refine g_aloadn (pc := 127) (i0 := 0) (j := 0) (dK D_Mo_close_1 27 rfl) rfl rfl ?_
          refine g_iloadn (pc := 128) (i0 := 3) (j := 3) (dK D_Mo_close_1 28 rfl) rfl rfl ?_
          refine vg_iconst (pc := 129) (dK D_Mo_close_1 29 rfl) ?_
          refine bnE h (fun p21 e_p21 h => ?_)
          refine vg_cV (pc := 130) (As := [V a3, V 0]) (rest := [.ref c0]) (mc' := 0) (ms' := 0) (dK D_Mo_close_1 30 rfl) K_Mo_82 (fitK rfl) (ltK rfl) hc0 rfl (leK rfl) (leK rfl) (leK rfl) (tf_Mo_ofAd hc0 ha3 (inRk rfl) e_p21) (kcI (fun h_p21 => ?_))
          refine bnE h (fun p22 e_p22 h => ?_)
          refine vg_cV (pc := 133) (As := [V p21]) (rest := []) (mc' := 0) (ms' := 0) (dK D_Mo_close_1 31 rfl) K_Mo_235 (fitK rfl) (ltK rfl) hc0 rfl (leK rfl) (leK rfl) (leK rfl) (tf_Mo_freeStandby hc0 h_p21 e_p22) (kcI (fun h_p22 => ?_))
          refine g_istore (pc := 136) (ls2 := [(4, V p22), (0, .ref c0), (1, V a1), (2, V a2), (3, V a3)]) (dK D_Mo_close_1 32 rfl) (ltK rfl) rfl ?_
          refine g_iload (pc := 138) (j := 0) (dK D_Mo_close_1 33 rfl) rfl ?_
          refine vg_iconst (pc := 140) (dK D_Mo_close_1 34 rfl) ?_
          refine vg_icmp_eq (pc := 141) (t := 151) (dK D_Mo_close_1 35 rfl) rfl h_p22 (inRk rfl) (fun hc26 => ?_) (fun hc26 => ?_)
          · replace h := ifP h hc26
            refine nmE h (fun v23 e_v23 h => ?_)
            refine vg_iinc (pc := 151) (j := 4) (a := a3) (z := 1) (ls2 := [(3, V v23), (4, V p22), (0, .ref c0), (1, V a1), (2, V a2)]) (dK D_Mo_close_1 40 rfl) rfl e_v23 (ltK rfl) rfl ?_
            refine g_goto (pc := 154) (tgt := 62) (dK D_Mo_close_1 41 rfl) rfl ?_
            refine gL_weak (ls' := [(0, .ref c0), (1, V a1), (2, V a2), (3, V v23)]) (sbc 2 rfl (sbc 3 rfl (sbc 4 rfl (sbc 0 rfl sbn)))) ?_
            replace h := ih _ h
            exact h (Vn_in e_v23)
          · replace h := ifN h hc26
            refine g_aloadn (pc := 144) (i0 := 0) (j := 1) (dK D_Mo_close_1 36 rfl) rfl rfl ?_
            refine g_iload (pc := 145) (j := 0) (dK D_Mo_close_1 37 rfl) rfl ?_
            refine g_iloadn (pc := 147) (i0 := 2) (j := 3) (dK D_Mo_close_1 38 rfl) rfl rfl ?_
            refine bnE h (fun p24 e_p24 h => ?_)
            refine vg_cV (pc := 148) (As := [V p22, V a2]) (rest := []) (mc' := 0) (ms' := 0) (dK D_Mo_close_1 39 rfl) K_Mo_217 (fitK rfl) (ltK rfl) hc0 rfl (leK rfl) (leK rfl) (leK rfl) (tf_Mo_setStandby hc0 h_p22 ha2 e_p24) (kcU ?_)
            refine nmE h (fun v25 e_v25 h => ?_)
            refine vg_iinc (pc := 151) (j := 4) (a := a3) (z := 1) (ls2 := [(3, V v25), (4, V p22), (0, .ref c0), (1, V a1), (2, V a2)]) (dK D_Mo_close_1 40 rfl) rfl e_v25 (ltK rfl) rfl ?_
            refine g_goto (pc := 154) (tgt := 62) (dK D_Mo_close_1 41 rfl) rfl ?_
            refine gL_weak (ls' := [(0, .ref c0), (1, V a1), (2, V a2), (3, V v25)]) (sbc 2 rfl (sbc 3 rfl (sbc 4 rfl (sbc 0 rfl sbn)))) ?_
            replace h := ih _ h
            exact h (Vn_in e_v25)
        · replace h := ifN h hc17
          refine g_goto (pc := 100) (tgt := 151) (dK D_Mo_close_1 9 rfl) rfl ?_
          refine nmE h (fun v27 e_v27 h => ?_)
          refine vg_iinc (pc := 151) (j := 3) (a := a3) (z := 1) (ls2 := [(3, V v27), (0, .ref c0), (1, V a1), (2, V a2)]) (dK D_Mo_close_1 40 rfl) rfl e_v27 (ltK rfl) rfl ?_
          refine g_goto (pc := 154) (tgt := 62) (dK D_Mo_close_1 41 rfl) rfl ?_
          refine gL_weak (ls' := [(0, .ref c0), (1, V a1), (2, V a2), (3, V v27)]) (sbc 1 rfl (sbc 2 rfl (sbc 3 rfl (sbc 0 rfl sbn)))) ?_
          replace h := ih _ h
          exact h (Vn_in e_v27)
def lb_Mo_close_52 (c0 : Nat) (a1 : Int) (go : Int × St → Option (St)) (a2 : Int) (S : St) : Option (St) := bnO (fn_Mo_pageMany c0 S) fun p12 => if p12 < a2 then (some S) else (bnO (lo_Mo_close_62 c0 a1 a2 FU (0, S)) fun p31 => nm (wr (a2 + 1)) fun v32 => go (v32, p31))
def lo_Mo_close_52 (c0 : Nat) (a1 : Int) : Nat → Int × St → Option (St) := lp fun go p => lb_Mo_close_52 c0 a1 go p.1 p.2
theorem tl_Mo_close_52 {E : EV} {X : XT} {c0 : Nat} (hc0 : HC X 11 c0) {a1 : Int} (ha1 : inR a1) {K : RK → PS → Prop} {q : St} (hx : Go E M_Mo_close 0 0 163 [(0, .ref c0), (1, V a1)] [] (WX X q) 0 0 K) : ∀ n a, lo_Mo_close_52 c0 a1 n a = some q → inR a.1 → Go E M_Mo_close 0 0 52 [(0, .ref c0), (1, V a1), (2, V a.1)] [] (WX X a.2) 0 0 K := by
  refine lp_ind (P := fun a : Int × St => inR a.1 → Go E M_Mo_close 0 0 52 [(0, .ref c0), (1, V a1), (2, V a.1)] [] (WX X a.2) 0 0 K) (fun go ih a h => ?_)
  obtain ⟨a2, S⟩ := a
  intro ha2
  show Go E M_Mo_close 0 0 52 [(0, .ref c0), (1, V a1), (2, V a2)] [] (WX X S) 0 0 K
  replace h : lb_Mo_close_52 c0 a1 go a2 S = some q := h
  unfold lb_Mo_close_52 at h
  refine g_iloadn (pc := 52) (i0 := 2) (j := 2) (dK D_Mo_close_0 32 rfl) rfl rfl ?_
  refine g_aloadn (pc := 53) (i0 := 0) (j := 0) (dK D_Mo_close_0 33 rfl) rfl rfl ?_
  refine bnE h (fun p12 e_p12 h => ?_)
  refine vg_cV (pc := 54) (As := []) (rest := [V a2]) (mc' := 0) (ms' := 0) (dK D_Mo_close_0 34 rfl) K_Mo_63 (fitK rfl) (ltK rfl) hc0 rfl (leK rfl) (leK rfl) (leK rfl) (tf_Mo_pageMany hc0 e_p12) (kcI (fun h_p12 => ?_))
  refine vg_icmp_gt (pc := 57) (t := 163) (dK D_Mo_close_0 35 rfl) rfl ha2 h_p12 (fun hc33 => ?_) (fun hc33 => ?_)
  · replace h := ifP h hc33
    obtain rfl := Option.some.inj h
    refine gL_weak (ls' := [(0, .ref c0), (1, V a1)]) (sbc 0 rfl (sbc 1 rfl sbn)) ?_
    exact hx 
  · replace h := ifN h hc33
    refine vg_iconst (pc := 60) (dK D_Mo_close_0 36 rfl) ?_
    refine g_istoren (pc := 61) (i0 := 3) (ls2 := [(3, V 0), (0, .ref c0), (1, V a1), (2, V a2)]) (dK D_Mo_close_0 37 rfl) rfl (ltK rfl) rfl ?_
    refine bnE h (fun p31 e_p31 h => ?_)
    refine gL_weak (ls' := [(0, .ref c0), (1, V a1), (2, V a2), (3, V 0)]) (sbc 1 rfl (sbc 2 rfl (sbc 3 rfl (sbc 0 rfl sbn)))) ?_
    refine tl_Mo_close_62 hc0 ha1 ha2 ?_ FU (0, S) e_p31 (inRk rfl)
    refine nmE h (fun v32 e_v32 h => ?_)
    refine vg_iinc (pc := 157) (j := 2) (a := a2) (z := 1) (ls2 := [(2, V v32), (0, .ref c0), (1, V a1)]) (dK D_Mo_close_1 42 rfl) rfl e_v32 (ltK rfl) rfl ?_
    refine g_goto (pc := 160) (tgt := 52) (dK D_Mo_close_1 43 rfl) rfl ?_
    refine gL_weak (ls' := [(0, .ref c0), (1, V a1), (2, V v32)]) (sbc 1 rfl (sbc 2 rfl (sbc 0 rfl sbn))) ?_
    replace h := ih _ h
    exact h (Vn_in e_v32)
def fn_Mo_close (c0 : Nat) (a1 : Int) (S : St) : Option (St) := bnO (lo_Mo_close_2 c0 a1 FU (0, S)) fun p11 => bnO (lo_Mo_close_52 c0 a1 FU (1, p11)) fun p34 => bnO (fn_Mo_setForm c0 a1 1 1 p34) fun p35 => some p35
theorem tf_Mo_close {E : EV} {X : XT} {c0 : Nat} (hc0 : HC X 11 c0) {a1 : Int} (ha1 : inR a1) {S : St} {q : St} (h : fn_Mo_close c0 a1 S = some q) : Ev E M_Mo_close [.ref c0, V a1] (WX X S) 0 0 (KU X q) := by
  refine Ev.of pn_Mo rfl (leK rfl) ?_
  show Go E M_Mo_close 0 0 0 [(0, .ref c0), (1, V a1)] [] (WX X S) 0 0 (KU X q)
  unfold fn_Mo_close at h
  refine vg_iconst (pc := 0) (dK D_Mo_close_0 0 rfl) ?_
  refine g_istoren (pc := 1) (i0 := 2) (ls2 := [(2, V 0), (0, .ref c0), (1, V a1)]) (dK D_Mo_close_0 1 rfl) rfl (ltK rfl) rfl ?_
  refine bnE h (fun p11 e_p11 h => ?_)
  refine gL_weak (ls' := [(0, .ref c0), (1, V a1), (2, V 0)]) (sbc 1 rfl (sbc 2 rfl (sbc 0 rfl sbn))) ?_
  refine tl_Mo_close_2 hc0 ha1 ?_ FU (0, S) e_p11 (inRk rfl)
  refine vg_iconst (pc := 50) (dK D_Mo_close_0 30 rfl) ?_
  refine g_istoren (pc := 51) (i0 := 2) (ls2 := [(2, V 1), (0, .ref c0), (1, V a1)]) (dK D_Mo_close_0 31 rfl) rfl (ltK rfl) rfl ?_
  refine bnE h (fun p34 e_p34 h => ?_)
  refine gL_weak (ls' := [(0, .ref c0), (1, V a1), (2, V 1)]) (sbc 1 rfl (sbc 2 rfl (sbc 0 rfl sbn))) ?_
  refine tl_Mo_close_52 hc0 ha1 ?_ FU (1, p11) e_p34 (inRk rfl)
  refine g_aloadn (pc := 163) (i0 := 0) (j := 0) (dK D_Mo_close_1 44 rfl) rfl rfl ?_
  refine g_iloadn (pc := 164) (i0 := 1) (j := 1) (dK D_Mo_close_1 45 rfl) rfl rfl ?_
  refine vg_iconst (pc := 165) (dK D_Mo_close_1 46 rfl) ?_
  refine vg_iconst (pc := 166) (dK D_Mo_close_1 47 rfl) ?_
  refine bnE h (fun p35 e_p35 h => ?_)
  refine vg_cV (pc := 167) (As := [V a1, V 1, V 1]) (rest := []) (mc' := 0) (ms' := 0) (dK D_Mo_close_1 48 rfl) K_Mo_232 (fitK rfl) (ltK rfl) hc0 rfl (leK rfl) (leK rfl) (leK rfl) (tf_Mo_setForm hc0 ha1 (inRk rfl) (inRk rfl) e_p35) (kcU ?_)
  exact g_return (pc := 170) (dK D_Mo_close_1 49 rfl) rfl (leK rfl) (leK rfl) (fun _ => rfl) (by obtain rfl := Option.some.inj h; exact ⟨rfl, rfl⟩)
def jf_Mo_setClosing_19 (c0 : Nat) (a1 : Int) (a2 : Int) (t0 : Int) (d1 : Nat) (S : St) : Option (Int × St) := bnO (fn_Mo_throwsIf d1 t0 1 S) fun p4 => if p4.1 = true then (some (0, p4.2)) else (bnO (fn_Mo_inRange a2 1 9999 p4.2) fun p6 => if p6 = true then (bnO (fn_Mo_throwsIf c0 0 2 p4.2) fun p8 => if p8.1 = true then (some (0, p8.2)) else (bnO (fn_Mo_ofForm c0 a1 1 p8.2) fun p10 => if p10 = 1 then (some ((-4), p8.2)) else (bnO (fn_Mo_ofForm c0 a1 2 p8.2) fun p11 => bnO (fn_Mo_record c0 p8.2) fun p12 => bnO (fn_Mo_setForm c0 a1 2 a2 p12) fun p13 => if (g p13 (tgt c0 0) 0) < a2 then (some (p11, p13)) else (bnO (fn_Mo_close c0 a1 p13) fun p14 => some (p11, p14))))) else (bnO (fn_Mo_throwsIf c0 1 2 p4.2) fun p17 => if p17.1 = true then (some (0, p17.2)) else (bnO (fn_Mo_ofForm c0 a1 1 p17.2) fun p19 => if p19 = 1 then (some ((-4), p17.2)) else (bnO (fn_Mo_ofForm c0 a1 2 p17.2) fun p20 => bnO (fn_Mo_record c0 p17.2) fun p21 => bnO (fn_Mo_setForm c0 a1 2 a2 p21) fun p22 => if (g p22 (tgt c0 0) 0) < a2 then (some (p20, p22)) else (bnO (fn_Mo_close c0 a1 p22) fun p23 => some (p20, p23))))))
theorem tj_Mo_setClosing_19 {E : EV} {X : XT} {c0 : Nat} (hc0 : HC X 11 c0) {a1 : Int} (ha1 : inR a1) {a2 : Int} (ha2 : inR a2) {t0 : Int} (ht0 : inR t0) {d1 : Nat} (hd1 : HC X 11 d1) {S : St} {q : Int × St} (h : jf_Mo_setClosing_19 c0 a1 a2 t0 d1 S = some q) : Go E M_Mo_setClosing 0 0 19 [(0, .ref c0), (1, V a1), (2, V a2)] [V t0, .ref d1] (WX X S) 0 0 (KI X q.1 q.2) := by
  unfold jf_Mo_setClosing_19 at h
  refine vg_iconst (pc := 19) (dK D_Mo_setClosing_0 11 rfl) ?_
  refine bnE h (fun p4 e_p4 h => ?_)
  refine vg_cV (pc := 20) (As := [V t0, V 1]) (rest := []) (mc' := 0) (ms' := 0) (dK D_Mo_setClosing_0 12 rfl) K_Mo_125 (fitK rfl) (ltK rfl) hd1 rfl (leK rfl) (leK rfl) (leK rfl) (tf_Mo_throwsIf hd1 ht0 (inRk rfl) e_p4) (kcB ?_)
  refine vg_ifB_ne (pc := 23) (b := p4.1) (t := 51) (dK D_Mo_setClosing_0 13 rfl) rfl (fun hc5 => ?_) (fun hc5 => ?_)
  · replace h := ifP h hc5
    refine vg_iconst (pc := 51) (dK D_Mo_setClosing_0 27 rfl) ?_
    exact vg_iretI (pc := 52) (r := 0) (dK D_Mo_setClosing_0 28 rfl) rfl (leK rfl) (leK rfl) (fun _ => rfl) (by obtain rfl := Option.some.inj h; exact ⟨rfl, (inRk rfl), rfl⟩)
  · replace h := ifN h hc5
    refine g_aloadn (pc := 26) (i0 := 0) (j := 0) (dK D_Mo_setClosing_0 14 rfl) rfl rfl ?_
    refine g_iloadn (pc := 27) (i0 := 2) (j := 2) (dK D_Mo_setClosing_0 15 rfl) rfl rfl ?_
    refine vg_i2l (pc := 28) (dK D_Mo_setClosing_0 16 rfl) ha2 ?_
    refine vg_lconst (pc := 29) (y := 1) (dK D_Mo_setClosing_0 17 rfl) rfl ?_
    refine vg_ldc2 (pc := 30) (y := 9999) (dK D_Mo_setClosing_0 18 rfl) q_1650 rfl ?_
    refine bnE h (fun p6 e_p6 h => ?_)
    refine vg_cS (pc := 33) (As := [J a2, J 1, J 9999]) (rest := [.ref c0]) (mc' := 0) (ms' := 0) (dK D_Mo_setClosing_0 19 rfl) K_Mo_67 (fitK rfl) rfl (leK rfl) (leK rfl) (leK rfl) (tf_Mo_inRange (inR_L ha2) (inLk rfl) (inLk rfl) e_p6) (kcB ?_)
    refine vg_ifB_ne (pc := 36) (b := p6) (t := 43) (dK D_Mo_setClosing_0 20 rfl) rfl (fun hc7 => ?_) (fun hc7 => ?_)
    · replace h := ifP h hc7
      refine vg_iconst (pc := 43) (dK D_Mo_setClosing_0 23 rfl) ?_
      refine vg_iconst (pc := 44) (dK D_Mo_setClosing_0 24 rfl) ?_
      refine bnE h (fun p8 e_p8 h => ?_)
      refine vg_cV (pc := 45) (As := [V 0, V 2]) (rest := []) (mc' := 0) (ms' := 0) (dK D_Mo_setClosing_0 25 rfl) K_Mo_125 (fitK rfl) (ltK rfl) hc0 rfl (leK rfl) (leK rfl) (leK rfl) (tf_Mo_throwsIf hc0 (inRk rfl) (inRk rfl) e_p8) (kcB ?_)
      refine vg_ifB_eq (pc := 48) (b := p8.1) (t := 53) (dK D_Mo_setClosing_0 26 rfl) rfl (fun hc9 => ?_) (fun hc9 => ?_)
      · replace h := ifP h hc9
        refine vg_iconst (pc := 51) (dK D_Mo_setClosing_0 27 rfl) ?_
        exact vg_iretI (pc := 52) (r := 0) (dK D_Mo_setClosing_0 28 rfl) rfl (leK rfl) (leK rfl) (fun _ => rfl) (by obtain rfl := Option.some.inj h; exact ⟨rfl, (inRk rfl), rfl⟩)
      · replace h := ifN h hc9
        refine g_aloadn (pc := 53) (i0 := 0) (j := 0) (dK D_Mo_setClosing_0 29 rfl) rfl rfl ?_
        refine g_iloadn (pc := 54) (i0 := 1) (j := 1) (dK D_Mo_setClosing_0 30 rfl) rfl rfl ?_
        refine vg_iconst (pc := 55) (dK D_Mo_setClosing_0 31 rfl) ?_
        refine bnE h (fun p10 e_p10 h => ?_)
        refine vg_cV (pc := 56) (As := [V a1, V 1]) (rest := []) (mc' := 0) (ms' := 0) (dK D_Mo_setClosing_0 32 rfl) K_Mo_78 (fitK rfl) (ltK rfl) hc0 rfl (leK rfl) (leK rfl) (leK rfl) (tf_Mo_ofForm hc0 ha1 (inRk rfl) e_p10) (kcI (fun h_p10 => ?_))
        refine vg_iconst (pc := 59) (dK D_Mo_setClosing_0 33 rfl) ?_
        refine vg_icmp_ne (pc := 60) (t := 66) (dK D_Mo_setClosing_0 34 rfl) rfl h_p10 (inRk rfl) (fun hc16 => ?_) (fun hc16 => ?_)
        · replace h := ifN h hc16
          refine g_aloadn (pc := 66) (i0 := 0) (j := 0) (dK D_Mo_setClosing_0 37 rfl) rfl rfl ?_
          refine g_iloadn (pc := 67) (i0 := 1) (j := 1) (dK D_Mo_setClosing_0 38 rfl) rfl rfl ?_
          refine vg_iconst (pc := 68) (dK D_Mo_setClosing_0 39 rfl) ?_
          refine bnE h (fun p11 e_p11 h => ?_)
          refine vg_cV (pc := 69) (As := [V a1, V 2]) (rest := []) (mc' := 0) (ms' := 0) (dK D_Mo_setClosing_0 40 rfl) K_Mo_78 (fitK rfl) (ltK rfl) hc0 rfl (leK rfl) (leK rfl) (leK rfl) (tf_Mo_ofForm hc0 ha1 (inRk rfl) e_p11) (kcI (fun h_p11 => ?_))
          refine g_istoren (pc := 72) (i0 := 3) (ls2 := [(3, V p11), (0, .ref c0), (1, V a1), (2, V a2)]) (dK D_Mo_setClosing_0 41 rfl) rfl (ltK rfl) rfl ?_
          refine g_aloadn (pc := 73) (i0 := 0) (j := 1) (dK D_Mo_setClosing_0 42 rfl) rfl rfl ?_
          refine bnE h (fun p12 e_p12 h => ?_)
          refine vg_cV (pc := 74) (As := []) (rest := []) (mc' := 0) (ms' := 0) (dK D_Mo_setClosing_0 43 rfl) K_Mo_159 (fitK rfl) (ltK rfl) hc0 rfl (leK rfl) (leK rfl) (leK rfl) (tf_Mo_record hc0 e_p12) (kcU ?_)
          refine g_aloadn (pc := 77) (i0 := 0) (j := 1) (dK D_Mo_setClosing_0 44 rfl) rfl rfl ?_
          refine g_iloadn (pc := 78) (i0 := 1) (j := 2) (dK D_Mo_setClosing_0 45 rfl) rfl rfl ?_
          refine vg_iconst (pc := 79) (dK D_Mo_setClosing_0 46 rfl) ?_
          refine g_iloadn (pc := 80) (i0 := 2) (j := 3) (dK D_Mo_setClosing_0 47 rfl) rfl rfl ?_
          refine bnE h (fun p13 e_p13 h => ?_)
          refine vg_cV (pc := 81) (As := [V a1, V 2, V a2]) (rest := []) (mc' := 0) (ms' := 0) (dK D_Mo_setClosing_0 48 rfl) K_Mo_232 (fitK rfl) (ltK rfl) hc0 rfl (leK rfl) (leK rfl) (leK rfl) (tf_Mo_setForm hc0 ha1 (inRk rfl) ha2 e_p13) (kcU ?_)
          refine g_iloadn (pc := 84) (i0 := 2) (j := 3) (dK D_Mo_setClosing_0 49 rfl) rfl rfl ?_
          refine g_aloadn (pc := 85) (i0 := 0) (j := 1) (dK D_Mo_setClosing_1 0 rfl) rfl rfl ?_
          refine vg_getA (pc := 86) (ci := 11) (f := 0) (dK D_Mo_setClosing_1 1 rfl) q_1442 hc0 (ltK rfl) (ltK rfl) rfl ?_
          refine vg_iconst (pc := 89) (dK D_Mo_setClosing_1 2 rfl) ?_
          refine vg_iaload (pc := 90) (j := 0) (dK D_Mo_setClosing_1 3 rfl) (hw_11_0 hc0) rfl ⟨by decide, by decide⟩ rfl ?_
          refine vg_icmp_gt (pc := 91) (t := 99) (dK D_Mo_setClosing_1 4 rfl) rfl ha2 (g_in _ _ _) (fun hc15 => ?_) (fun hc15 => ?_)
          · replace h := ifP h hc15
            refine g_iloadn (pc := 99) (i0 := 3) (j := 0) (dK D_Mo_setClosing_1 8 rfl) rfl rfl ?_
            exact vg_iretI (pc := 100) (r := p11) (dK D_Mo_setClosing_1 9 rfl) rfl (leK rfl) (leK rfl) (fun _ => rfl) (by obtain rfl := Option.some.inj h; exact ⟨rfl, h_p11, rfl⟩)
          · replace h := ifN h hc15
            refine g_aloadn (pc := 94) (i0 := 0) (j := 1) (dK D_Mo_setClosing_1 5 rfl) rfl rfl ?_
            refine g_iloadn (pc := 95) (i0 := 1) (j := 2) (dK D_Mo_setClosing_1 6 rfl) rfl rfl ?_
            refine bnE h (fun p14 e_p14 h => ?_)
            refine vg_cV (pc := 96) (As := [V a1]) (rest := []) (mc' := 0) (ms' := 0) (dK D_Mo_setClosing_1 7 rfl) K_Mo_238 (fitK rfl) (ltK rfl) hc0 rfl (leK rfl) (leK rfl) (leK rfl) (tf_Mo_close hc0 ha1 e_p14) (kcU ?_)
            refine g_iloadn (pc := 99) (i0 := 3) (j := 0) (dK D_Mo_setClosing_1 8 rfl) rfl rfl ?_
            exact vg_iretI (pc := 100) (r := p11) (dK D_Mo_setClosing_1 9 rfl) rfl (leK rfl) (leK rfl) (fun _ => rfl) (by obtain rfl := Option.some.inj h; exact ⟨rfl, h_p11, rfl⟩)
        · replace h := ifP h hc16
          refine vg_bipush (pc := 63) (dK D_Mo_setClosing_0 35 rfl) rfl ?_
          exact vg_iretI (pc := 65) (r := (-4)) (dK D_Mo_setClosing_0 36 rfl) rfl (leK rfl) (leK rfl) (fun _ => rfl) (by obtain rfl := Option.some.inj h; exact ⟨rfl, (inRk rfl), rfl⟩)
    · replace h := ifN h hc7
      refine vg_iconst (pc := 39) (dK D_Mo_setClosing_0 21 rfl) ?_
      refine g_goto (pc := 40) (tgt := 44) (dK D_Mo_setClosing_0 22 rfl) rfl ?_
      refine vg_iconst (pc := 44) (dK D_Mo_setClosing_0 24 rfl) ?_
      refine bnE h (fun p17 e_p17 h => ?_)
      refine vg_cV (pc := 45) (As := [V 1, V 2]) (rest := []) (mc' := 0) (ms' := 0) (dK D_Mo_setClosing_0 25 rfl) K_Mo_125 (fitK rfl) (ltK rfl) hc0 rfl (leK rfl) (leK rfl) (leK rfl) (tf_Mo_throwsIf hc0 (inRk rfl) (inRk rfl) e_p17) (kcB ?_)
      refine vg_ifB_eq (pc := 48) (b := p17.1) (t := 53) (dK D_Mo_setClosing_0 26 rfl) rfl (fun hc18 => ?_) (fun hc18 => ?_)
      · replace h := ifP h hc18
        refine vg_iconst (pc := 51) (dK D_Mo_setClosing_0 27 rfl) ?_
        exact vg_iretI (pc := 52) (r := 0) (dK D_Mo_setClosing_0 28 rfl) rfl (leK rfl) (leK rfl) (fun _ => rfl) (by obtain rfl := Option.some.inj h; exact ⟨rfl, (inRk rfl), rfl⟩)
      · replace h := ifN h hc18
        refine g_aloadn (pc := 53) (i0 := 0) (j := 0) (dK D_Mo_setClosing_0 29 rfl) rfl rfl ?_
        refine g_iloadn (pc := 54) (i0 := 1) (j := 1) (dK D_Mo_setClosing_0 30 rfl) rfl rfl ?_
        refine vg_iconst (pc := 55) (dK D_Mo_setClosing_0 31 rfl) ?_
        refine bnE h (fun p19 e_p19 h => ?_)
        refine vg_cV (pc := 56) (As := [V a1, V 1]) (rest := []) (mc' := 0) (ms' := 0) (dK D_Mo_setClosing_0 32 rfl) K_Mo_78 (fitK rfl) (ltK rfl) hc0 rfl (leK rfl) (leK rfl) (leK rfl) (tf_Mo_ofForm hc0 ha1 (inRk rfl) e_p19) (kcI (fun h_p19 => ?_))
        refine vg_iconst (pc := 59) (dK D_Mo_setClosing_0 33 rfl) ?_
        refine vg_icmp_ne (pc := 60) (t := 66) (dK D_Mo_setClosing_0 34 rfl) rfl h_p19 (inRk rfl) (fun hc25 => ?_) (fun hc25 => ?_)
        · replace h := ifN h hc25
          refine g_aloadn (pc := 66) (i0 := 0) (j := 0) (dK D_Mo_setClosing_0 37 rfl) rfl rfl ?_
          refine g_iloadn (pc := 67) (i0 := 1) (j := 1) (dK D_Mo_setClosing_0 38 rfl) rfl rfl ?_
          refine vg_iconst (pc := 68) (dK D_Mo_setClosing_0 39 rfl) ?_
          refine bnE h (fun p20 e_p20 h => ?_)
          refine vg_cV (pc := 69) (As := [V a1, V 2]) (rest := []) (mc' := 0) (ms' := 0) (dK D_Mo_setClosing_0 40 rfl) K_Mo_78 (fitK rfl) (ltK rfl) hc0 rfl (leK rfl) (leK rfl) (leK rfl) (tf_Mo_ofForm hc0 ha1 (inRk rfl) e_p20) (kcI (fun h_p20 => ?_))
          refine g_istoren (pc := 72) (i0 := 3) (ls2 := [(3, V p20), (0, .ref c0), (1, V a1), (2, V a2)]) (dK D_Mo_setClosing_0 41 rfl) rfl (ltK rfl) rfl ?_
          refine g_aloadn (pc := 73) (i0 := 0) (j := 1) (dK D_Mo_setClosing_0 42 rfl) rfl rfl ?_
          refine bnE h (fun p21 e_p21 h => ?_)
          refine vg_cV (pc := 74) (As := []) (rest := []) (mc' := 0) (ms' := 0) (dK D_Mo_setClosing_0 43 rfl) K_Mo_159 (fitK rfl) (ltK rfl) hc0 rfl (leK rfl) (leK rfl) (leK rfl) (tf_Mo_record hc0 e_p21) (kcU ?_)
          refine g_aloadn (pc := 77) (i0 := 0) (j := 1) (dK D_Mo_setClosing_0 44 rfl) rfl rfl ?_
          refine g_iloadn (pc := 78) (i0 := 1) (j := 2) (dK D_Mo_setClosing_0 45 rfl) rfl rfl ?_
          refine vg_iconst (pc := 79) (dK D_Mo_setClosing_0 46 rfl) ?_
          refine g_iloadn (pc := 80) (i0 := 2) (j := 3) (dK D_Mo_setClosing_0 47 rfl) rfl rfl ?_
          refine bnE h (fun p22 e_p22 h => ?_)
          refine vg_cV (pc := 81) (As := [V a1, V 2, V a2]) (rest := []) (mc' := 0) (ms' := 0) (dK D_Mo_setClosing_0 48 rfl) K_Mo_232 (fitK rfl) (ltK rfl) hc0 rfl (leK rfl) (leK rfl) (leK rfl) (tf_Mo_setForm hc0 ha1 (inRk rfl) ha2 e_p22) (kcU ?_)
          refine g_iloadn (pc := 84) (i0 := 2) (j := 3) (dK D_Mo_setClosing_0 49 rfl) rfl rfl ?_
          refine g_aloadn (pc := 85) (i0 := 0) (j := 1) (dK D_Mo_setClosing_1 0 rfl) rfl rfl ?_
          refine vg_getA (pc := 86) (ci := 11) (f := 0) (dK D_Mo_setClosing_1 1 rfl) q_1442 hc0 (ltK rfl) (ltK rfl) rfl ?_
          refine vg_iconst (pc := 89) (dK D_Mo_setClosing_1 2 rfl) ?_
          refine vg_iaload (pc := 90) (j := 0) (dK D_Mo_setClosing_1 3 rfl) (hw_11_0 hc0) rfl ⟨by decide, by decide⟩ rfl ?_
          refine vg_icmp_gt (pc := 91) (t := 99) (dK D_Mo_setClosing_1 4 rfl) rfl ha2 (g_in _ _ _) (fun hc24 => ?_) (fun hc24 => ?_)
          · replace h := ifP h hc24
            refine g_iloadn (pc := 99) (i0 := 3) (j := 0) (dK D_Mo_setClosing_1 8 rfl) rfl rfl ?_
            exact vg_iretI (pc := 100) (r := p20) (dK D_Mo_setClosing_1 9 rfl) rfl (leK rfl) (leK rfl) (fun _ => rfl) (by obtain rfl := Option.some.inj h; exact ⟨rfl, h_p20, rfl⟩)
          · replace h := ifN h hc24
            refine g_aloadn (pc := 94) (i0 := 0) (j := 1) (dK D_Mo_setClosing_1 5 rfl) rfl rfl ?_
            refine g_iloadn (pc := 95) (i0 := 1) (j := 2) (dK D_Mo_setClosing_1 6 rfl) rfl rfl ?_
            refine bnE h (fun p23 e_p23 h => ?_)
            refine vg_cV (pc := 96) (As := [V a1]) (rest := []) (mc' := 0) (ms' := 0) (dK D_Mo_setClosing_1 7 rfl) K_Mo_238 (fitK rfl) (ltK rfl) hc0 rfl (leK rfl) (leK rfl) (leK rfl) (tf_Mo_close hc0 ha1 e_p23) (kcU ?_)
            refine g_iloadn (pc := 99) (i0 := 3) (j := 0) (dK D_Mo_setClosing_1 8 rfl) rfl rfl ?_
            exact vg_iretI (pc := 100) (r := p20) (dK D_Mo_setClosing_1 9 rfl) rfl (leK rfl) (leK rfl) (fun _ => rfl) (by obtain rfl := Option.some.inj h; exact ⟨rfl, h_p20, rfl⟩)
        · replace h := ifP h hc25
          refine vg_bipush (pc := 63) (dK D_Mo_setClosing_0 35 rfl) rfl ?_
          exact vg_iretI (pc := 65) (r := (-4)) (dK D_Mo_setClosing_0 36 rfl) rfl (leK rfl) (leK rfl) (fun _ => rfl) (by obtain rfl := Option.some.inj h; exact ⟨rfl, (inRk rfl), rfl⟩)
def fn_Mo_setClosing (c0 : Nat) (a1 : Int) (a2 : Int) (S : St) : Option (Int × St) := nm (u S c0 4 0) fun S1 => bnO (fn_Mo_isForm c0 a1 S1) fun p2 => if p2 = true then (jf_Mo_setClosing_19 c0 a1 a2 0 c0 S1) else (jf_Mo_setClosing_19 c0 a1 a2 1 c0 S1)
theorem tf_Mo_setClosing {E : EV} {X : XT} {c0 : Nat} (hc0 : HC X 11 c0) {a1 : Int} (ha1 : inR a1) {a2 : Int} (ha2 : inR a2) {S : St} {q : Int × St} (h : fn_Mo_setClosing c0 a1 a2 S = some q) : Ev E M_Mo_setClosing [.ref c0, V a1, V a2] (WX X S) 0 0 (KI X q.1 q.2) := by
  refine Ev.of pn_Mo rfl (leK rfl) ?_
  show Go E M_Mo_setClosing 0 0 0 [(0, .ref c0), (1, V a1), (2, V a2)] [] (WX X S) 0 0 (KI X q.1 q.2)
  unfold fn_Mo_setClosing at h
  refine g_aloadn (pc := 0) (i0 := 0) (j := 0) (dK D_Mo_setClosing_0 0 rfl) rfl rfl ?_
  refine vg_iconst (pc := 1) (dK D_Mo_setClosing_0 1 rfl) ?_
  refine nmE h (fun S1 e_S1 h => ?_)
  refine vg_putI (pc := 2) (ci := 11) (f := 4) (z := 0) (dK D_Mo_setClosing_0 2 rfl) q_1446 hc0 (ltK rfl) (ltK rfl) rfl rfl e_S1 ?_
  refine g_aloadn (pc := 5) (i0 := 0) (j := 0) (dK D_Mo_setClosing_0 3 rfl) rfl rfl ?_
  refine g_aloadn (pc := 6) (i0 := 0) (j := 0) (dK D_Mo_setClosing_0 4 rfl) rfl rfl ?_
  refine g_iloadn (pc := 7) (i0 := 1) (j := 1) (dK D_Mo_setClosing_0 5 rfl) rfl rfl ?_
  refine bnE h (fun p2 e_p2 h => ?_)
  refine vg_cV (pc := 8) (As := [V a1]) (rest := [.ref c0]) (mc' := 0) (ms' := 0) (dK D_Mo_setClosing_0 6 rfl) K_Mo_199 (fitK rfl) (ltK rfl) hc0 rfl (leK rfl) (leK rfl) (leK rfl) (tf_Mo_isForm hc0 ha1 e_p2) (kcB ?_)
  refine vg_ifB_ne (pc := 11) (b := p2) (t := 18) (dK D_Mo_setClosing_0 7 rfl) rfl (fun hc3 => ?_) (fun hc3 => ?_)
  · replace h := ifP h hc3
    refine vg_iconst (pc := 18) (dK D_Mo_setClosing_0 10 rfl) ?_
    exact tj_Mo_setClosing_19 hc0 ha1 ha2 (inRk rfl) hc0 h
  · replace h := ifN h hc3
    refine vg_iconst (pc := 14) (dK D_Mo_setClosing_0 8 rfl) ?_
    refine g_goto (pc := 15) (tgt := 19) (dK D_Mo_setClosing_0 9 rfl) rfl ?_
    exact tj_Mo_setClosing_19 hc0 ha1 ha2 (inRk rfl) hc0 h
def lb_Mo_hour_14 (c0 : Nat) (go : Int × Int × St → Option (Int × St)) (a1 : Int) (a2 : Int) (S : St) : Option (Int × St) := bnO (fn_Mo_formMany c0 S) fun p2 => if p2 ≤ a2 then (some (a1, S)) else (bnO (fn_Mo_ofForm c0 a2 1 S) fun p3 => if p3 = 1 then (nm (wr (a2 + 1)) fun v4 => go (a1, v4, S)) else (bnO (fn_Mo_ofForm c0 a2 2 S) fun p5 => if p5 = (g S (tgt c0 0) 0) then (bnO (fn_Mo_close c0 a2 S) fun p6 => nm (wr (a1 + 1)) fun v7 => nm (wr (a2 + 1)) fun v8 => go (v7, v8, p6)) else (nm (wr (a2 + 1)) fun v9 => go (a1, v9, S))))
def lo_Mo_hour_14 (c0 : Nat) : Nat → Int × Int × St → Option (Int × St) := lp fun go p => lb_Mo_hour_14 c0 go p.1 p.2.1 p.2.2
theorem tl_Mo_hour_14 {E : EV} {X : XT} {c0 : Nat} (hc0 : HC X 11 c0) {K : RK → PS → Prop} {q : Int × St} (hx : inR q.1 → Go E M_Mo_hour 0 0 64 [(1, V q.1)] [] (WX X q.2) 0 0 K) : ∀ n a, lo_Mo_hour_14 c0 n a = some q → inR a.1 → inR a.2.1 → Go E M_Mo_hour 0 0 14 [(0, .ref c0), (1, V a.1), (2, V a.2.1)] [] (WX X a.2.2) 0 0 K := by
  refine lp_ind (P := fun a : Int × Int × St => inR a.1 → inR a.2.1 → Go E M_Mo_hour 0 0 14 [(0, .ref c0), (1, V a.1), (2, V a.2.1)] [] (WX X a.2.2) 0 0 K) (fun go ih a h => ?_)
  obtain ⟨a1, a2, S⟩ := a
  intro ha1 ha2
  show Go E M_Mo_hour 0 0 14 [(0, .ref c0), (1, V a1), (2, V a2)] [] (WX X S) 0 0 K
  replace h : lb_Mo_hour_14 c0 go a1 a2 S = some q := h
  unfold lb_Mo_hour_14 at h
  refine g_iloadn (pc := 14) (i0 := 2) (j := 2) (dK D_Mo_hour 12 rfl) rfl rfl ?_
  refine g_aloadn (pc := 15) (i0 := 0) (j := 0) (dK D_Mo_hour 13 rfl) rfl rfl ?_
  refine bnE h (fun p2 e_p2 h => ?_)
  refine vg_cV (pc := 16) (As := []) (rest := [V a2]) (mc' := 0) (ms' := 0) (dK D_Mo_hour 14 rfl) K_Mo_71 (fitK rfl) (ltK rfl) hc0 rfl (leK rfl) (leK rfl) (leK rfl) (tf_Mo_formMany hc0 e_p2) (kcI (fun h_p2 => ?_))
  refine vg_icmp_ge (pc := 19) (t := 64) (dK D_Mo_hour 15 rfl) rfl ha2 h_p2 (fun hc12 => ?_) (fun hc12 => ?_)
  · replace h := ifP h hc12
    obtain rfl := Option.some.inj h
    refine gL_weak (ls' := [(1, V a1)]) (sbc 1 rfl sbn) ?_
    exact hx ha1
  · replace h := ifN h hc12
    refine g_aloadn (pc := 22) (i0 := 0) (j := 0) (dK D_Mo_hour 16 rfl) rfl rfl ?_
    refine g_iloadn (pc := 23) (i0 := 2) (j := 2) (dK D_Mo_hour 17 rfl) rfl rfl ?_
    refine vg_iconst (pc := 24) (dK D_Mo_hour 18 rfl) ?_
    refine bnE h (fun p3 e_p3 h => ?_)
    refine vg_cV (pc := 25) (As := [V a2, V 1]) (rest := []) (mc' := 0) (ms' := 0) (dK D_Mo_hour 19 rfl) K_Mo_78 (fitK rfl) (ltK rfl) hc0 rfl (leK rfl) (leK rfl) (leK rfl) (tf_Mo_ofForm hc0 ha2 (inRk rfl) e_p3) (kcI (fun h_p3 => ?_))
    refine vg_iconst (pc := 28) (dK D_Mo_hour 20 rfl) ?_
    refine vg_icmp_eq (pc := 29) (t := 58) (dK D_Mo_hour 21 rfl) rfl h_p3 (inRk rfl) (fun hc11 => ?_) (fun hc11 => ?_)
    · replace h := ifP h hc11
      refine nmE h (fun v4 e_v4 h => ?_)
      refine vg_iinc (pc := 58) (j := 2) (a := a2) (z := 1) (ls2 := [(2, V v4), (0, .ref c0), (1, V a1)]) (dK D_Mo_hour 36 rfl) rfl e_v4 (ltK rfl) rfl ?_
      refine g_goto (pc := 61) (tgt := 14) (dK D_Mo_hour 37 rfl) rfl ?_
      refine gL_weak (ls' := [(0, .ref c0), (1, V a1), (2, V v4)]) (sbc 1 rfl (sbc 2 rfl (sbc 0 rfl sbn))) ?_
      replace h := ih _ h
      exact h ha1 (Vn_in e_v4)
    · replace h := ifN h hc11
      refine g_aloadn (pc := 32) (i0 := 0) (j := 0) (dK D_Mo_hour 22 rfl) rfl rfl ?_
      refine g_iloadn (pc := 33) (i0 := 2) (j := 2) (dK D_Mo_hour 23 rfl) rfl rfl ?_
      refine vg_iconst (pc := 34) (dK D_Mo_hour 24 rfl) ?_
      refine bnE h (fun p5 e_p5 h => ?_)
      refine vg_cV (pc := 35) (As := [V a2, V 2]) (rest := []) (mc' := 0) (ms' := 0) (dK D_Mo_hour 25 rfl) K_Mo_78 (fitK rfl) (ltK rfl) hc0 rfl (leK rfl) (leK rfl) (leK rfl) (tf_Mo_ofForm hc0 ha2 (inRk rfl) e_p5) (kcI (fun h_p5 => ?_))
      refine g_aloadn (pc := 38) (i0 := 0) (j := 0) (dK D_Mo_hour 26 rfl) rfl rfl ?_
      refine vg_getA (pc := 39) (ci := 11) (f := 0) (dK D_Mo_hour 27 rfl) q_1442 hc0 (ltK rfl) (ltK rfl) rfl ?_
      refine vg_iconst (pc := 42) (dK D_Mo_hour 28 rfl) ?_
      refine vg_iaload (pc := 43) (j := 0) (dK D_Mo_hour 29 rfl) (hw_11_0 hc0) rfl ⟨by decide, by decide⟩ rfl ?_
      refine vg_icmp_eq (pc := 44) (t := 50) (dK D_Mo_hour 30 rfl) rfl h_p5 (g_in _ _ _) (fun hc10 => ?_) (fun hc10 => ?_)
      · replace h := ifP h hc10
        refine g_aloadn (pc := 50) (i0 := 0) (j := 0) (dK D_Mo_hour 32 rfl) rfl rfl ?_
        refine g_iloadn (pc := 51) (i0 := 2) (j := 2) (dK D_Mo_hour 33 rfl) rfl rfl ?_
        refine bnE h (fun p6 e_p6 h => ?_)
        refine vg_cV (pc := 52) (As := [V a2]) (rest := []) (mc' := 0) (ms' := 0) (dK D_Mo_hour 34 rfl) K_Mo_238 (fitK rfl) (ltK rfl) hc0 rfl (leK rfl) (leK rfl) (leK rfl) (tf_Mo_close hc0 ha2 e_p6) (kcU ?_)
        refine nmE h (fun v7 e_v7 h => ?_)
        refine vg_iinc (pc := 55) (j := 1) (a := a1) (z := 1) (ls2 := [(1, V v7), (0, .ref c0), (2, V a2)]) (dK D_Mo_hour 35 rfl) rfl e_v7 (ltK rfl) rfl ?_
        refine nmE h (fun v8 e_v8 h => ?_)
        refine vg_iinc (pc := 58) (j := 2) (a := a2) (z := 1) (ls2 := [(2, V v8), (1, V v7), (0, .ref c0)]) (dK D_Mo_hour 36 rfl) rfl e_v8 (ltK rfl) rfl ?_
        refine g_goto (pc := 61) (tgt := 14) (dK D_Mo_hour 37 rfl) rfl ?_
        refine gL_weak (ls' := [(0, .ref c0), (1, V v7), (2, V v8)]) (sbc 2 rfl (sbc 1 rfl (sbc 0 rfl sbn))) ?_
        replace h := ih _ h
        exact h (Vn_in e_v7) (Vn_in e_v8)
      · replace h := ifN h hc10
        refine g_goto (pc := 47) (tgt := 58) (dK D_Mo_hour 31 rfl) rfl ?_
        refine nmE h (fun v9 e_v9 h => ?_)
        refine vg_iinc (pc := 58) (j := 2) (a := a2) (z := 1) (ls2 := [(2, V v9), (0, .ref c0), (1, V a1)]) (dK D_Mo_hour 36 rfl) rfl e_v9 (ltK rfl) rfl ?_
        refine g_goto (pc := 61) (tgt := 14) (dK D_Mo_hour 37 rfl) rfl ?_
        refine gL_weak (ls' := [(0, .ref c0), (1, V a1), (2, V v9)]) (sbc 1 rfl (sbc 2 rfl (sbc 0 rfl sbn))) ?_
        replace h := ih _ h
        exact h ha1 (Vn_in e_v9)
def fn_Mo_hour (c0 : Nat) (S : St) : Option (Int × St) := nm (u S (tgt c0 0) 0 ((g S (tgt c0 0) 0) + 1)) fun S1 => bnO (lo_Mo_hour_14 c0 FU (0, 0, S1)) fun p13 => some (p13.1, p13.2)
theorem tf_Mo_hour {E : EV} {X : XT} {c0 : Nat} (hc0 : HC X 11 c0) {S : St} {q : Int × St} (h : fn_Mo_hour c0 S = some q) : Ev E M_Mo_hour [.ref c0] (WX X S) 0 0 (KI X q.1 q.2) := by
  refine Ev.of pn_Mo rfl (leK rfl) ?_
  show Go E M_Mo_hour 0 0 0 [(0, .ref c0)] [] (WX X S) 0 0 (KI X q.1 q.2)
  unfold fn_Mo_hour at h
  refine g_aloadn (pc := 0) (i0 := 0) (j := 0) (dK D_Mo_hour 0 rfl) rfl rfl ?_
  refine vg_getA (pc := 1) (ci := 11) (f := 0) (dK D_Mo_hour 1 rfl) q_1442 hc0 (ltK rfl) (ltK rfl) rfl ?_
  refine vg_iconst (pc := 4) (dK D_Mo_hour 2 rfl) ?_
  refine g_dup2 (pc := 5) (dK D_Mo_hour 3 rfl) rfl rfl ?_
  refine vg_iaload (pc := 6) (j := 0) (dK D_Mo_hour 4 rfl) (hw_11_0 hc0) rfl ⟨by decide, by decide⟩ rfl ?_
  refine vg_iconst (pc := 7) (dK D_Mo_hour 5 rfl) ?_
  refine vg_iadd (pc := 8) (dK D_Mo_hour 6 rfl) ?_
  refine nmE h (fun S1 e_S1 h => ?_)
  refine vg_iastore (pc := 9) (z := ((g S (tgt c0 0) 0) + 1)) (dK D_Mo_hour 7 rfl) (hw_11_0 hc0) rfl ⟨by decide, by decide⟩ rfl e_S1 ?_
  refine vg_iconst (pc := 10) (dK D_Mo_hour 8 rfl) ?_
  refine g_istoren (pc := 11) (i0 := 1) (ls2 := [(1, V 0), (0, .ref c0)]) (dK D_Mo_hour 9 rfl) rfl (ltK rfl) rfl ?_
  refine vg_iconst (pc := 12) (dK D_Mo_hour 10 rfl) ?_
  refine g_istoren (pc := 13) (i0 := 2) (ls2 := [(2, V 0), (1, V 0), (0, .ref c0)]) (dK D_Mo_hour 11 rfl) rfl (ltK rfl) rfl ?_
  refine bnE h (fun p13 e_p13 h => ?_)
  refine gL_weak (ls' := [(0, .ref c0), (1, V 0), (2, V 0)]) (sbc 2 rfl (sbc 1 rfl (sbc 0 rfl sbn))) ?_
  refine tl_Mo_hour_14 hc0 (fun hx1_p13 => ?_) FU (0, 0, S1) e_p13 (inRk rfl) (inRk rfl)
  refine g_iloadn (pc := 64) (i0 := 1) (j := 0) (dK D_Mo_hour 38 rfl) rfl rfl ?_
  exact vg_iretI (pc := 65) (r := p13.1) (dK D_Mo_hour 39 rfl) rfl (leK rfl) (leK rfl) (fun _ => rfl) (by obtain rfl := Option.some.inj h; exact ⟨rfl, hx1_p13, rfl⟩)
def lb_Mo_pass_57 (c0 : Nat) (a1 : Int) (go : Int × Int × St → Option (Int × St)) (a2 : Int) (a3 : Int) (S : St) : Option (Int × St) := if a1 ≤ a3 then (some (a2, S)) else (bnO (fn_Mo_hour c0 S) fun p8 => nm (wr (a2 + p8.1)) fun v9 => nm (wr (a3 + 1)) fun v10 => go (v9, v10, p8.2))
def lo_Mo_pass_57 (c0 : Nat) (a1 : Int) : Nat → Int × Int × St → Option (Int × St) := lp fun go p => lb_Mo_pass_57 c0 a1 go p.1 p.2.1 p.2.2
theorem tl_Mo_pass_57 {E : EV} {X : XT} {c0 : Nat} (hc0 : HC X 11 c0) {a1 : Int} (ha1 : inR a1) {K : RK → PS → Prop} {q : Int × St} (hx : inR q.1 → Go E M_Mo_pass 0 0 75 [(2, V q.1)] [] (WX X q.2) 0 0 K) : ∀ n a, lo_Mo_pass_57 c0 a1 n a = some q → inR a.1 → inR a.2.1 → Go E M_Mo_pass 0 0 57 [(0, .ref c0), (1, V a1), (2, V a.1), (3, V a.2.1)] [] (WX X a.2.2) 0 0 K := by
  refine lp_ind (P := fun a : Int × Int × St => inR a.1 → inR a.2.1 → Go E M_Mo_pass 0 0 57 [(0, .ref c0), (1, V a1), (2, V a.1), (3, V a.2.1)] [] (WX X a.2.2) 0 0 K) (fun go ih a h => ?_)
  obtain ⟨a2, a3, S⟩ := a
  intro ha2 ha3
  show Go E M_Mo_pass 0 0 57 [(0, .ref c0), (1, V a1), (2, V a2), (3, V a3)] [] (WX X S) 0 0 K
  replace h : lb_Mo_pass_57 c0 a1 go a2 a3 S = some q := h
  unfold lb_Mo_pass_57 at h
  refine g_iloadn (pc := 57) (i0 := 3) (j := 3) (dK D_Mo_pass 34 rfl) rfl rfl ?_
  refine g_iloadn (pc := 58) (i0 := 1) (j := 1) (dK D_Mo_pass 35 rfl) rfl rfl ?_
  refine vg_icmp_ge (pc := 59) (t := 75) (dK D_Mo_pass 36 rfl) rfl ha3 ha1 (fun hc11 => ?_) (fun hc11 => ?_)
  · replace h := ifP h hc11
    obtain rfl := Option.some.inj h
    refine gL_weak (ls' := [(2, V a2)]) (sbc 2 rfl sbn) ?_
    exact hx ha2
  · replace h := ifN h hc11
    refine g_iloadn (pc := 62) (i0 := 2) (j := 2) (dK D_Mo_pass 37 rfl) rfl rfl ?_
    refine g_aloadn (pc := 63) (i0 := 0) (j := 0) (dK D_Mo_pass 38 rfl) rfl rfl ?_
    refine bnE h (fun p8 e_p8 h => ?_)
    refine vg_cV (pc := 64) (As := []) (rest := [V a2]) (mc' := 0) (ms' := 0) (dK D_Mo_pass 39 rfl) K_Mo_243 (fitK rfl) (ltK rfl) hc0 rfl (leK rfl) (leK rfl) (leK rfl) (tf_Mo_hour hc0 e_p8) (kcI (fun h_p8 => ?_))
    refine vg_iadd (pc := 67) (dK D_Mo_pass 40 rfl) ?_
    refine nmE h (fun v9 e_v9 h => ?_)
    refine gtop e_v9 ?_
    refine g_istoren (pc := 68) (i0 := 2) (ls2 := [(2, V v9), (0, .ref c0), (1, V a1), (3, V a3)]) (dK D_Mo_pass 41 rfl) rfl (ltK rfl) rfl ?_
    refine nmE h (fun v10 e_v10 h => ?_)
    refine vg_iinc (pc := 69) (j := 3) (a := a3) (z := 1) (ls2 := [(3, V v10), (2, V v9), (0, .ref c0), (1, V a1)]) (dK D_Mo_pass 42 rfl) rfl e_v10 (ltK rfl) rfl ?_
    refine g_goto (pc := 72) (tgt := 57) (dK D_Mo_pass 43 rfl) rfl ?_
    refine gL_weak (ls' := [(0, .ref c0), (1, V a1), (2, V v9), (3, V v10)]) (sbc 2 rfl (sbc 3 rfl (sbc 1 rfl (sbc 0 rfl sbn)))) ?_
    replace h := ih _ h
    exact h (Vn_in e_v9) (Vn_in e_v10)
def fn_Mo_pass (c0 : Nat) (a1 : Int) (S : St) : Option (Int × St) := nm (u S c0 4 0) fun S1 => bnO (fn_Mo_inRange a1 1 500 S1) fun p2 => if p2 = true then (bnO (fn_Mo_throwsIf c0 0 1 S1) fun p4 => if p4.1 = true then (some (0, p4.2)) else (nm (wr ((g p4.2 (tgt c0 0) 0) + a1)) fun v6 => if v6 ≤ 9999 then (bnO (fn_Mo_record c0 p4.2) fun p7 => bnO (lo_Mo_pass_57 c0 a1 FU (0, 0, p7)) fun p12 => some (p12.1, p12.2)) else (some ((-2), p4.2)))) else (bnO (fn_Mo_throwsIf c0 1 1 S1) fun p14 => if p14.1 = true then (some (0, p14.2)) else (nm (wr ((g p14.2 (tgt c0 0) 0) + a1)) fun v16 => if v16 ≤ 9999 then (bnO (fn_Mo_record c0 p14.2) fun p17 => bnO (lo_Mo_pass_57 c0 a1 FU (0, 0, p17)) fun p18 => some (p18.1, p18.2)) else (some ((-2), p14.2))))
theorem tf_Mo_pass {E : EV} {X : XT} {c0 : Nat} (hc0 : HC X 11 c0) {a1 : Int} (ha1 : inR a1) {S : St} {q : Int × St} (h : fn_Mo_pass c0 a1 S = some q) : Ev E M_Mo_pass [.ref c0, V a1] (WX X S) 0 0 (KI X q.1 q.2) := by
  refine Ev.of pn_Mo rfl (leK rfl) ?_
  show Go E M_Mo_pass 0 0 0 [(0, .ref c0), (1, V a1)] [] (WX X S) 0 0 (KI X q.1 q.2)
  unfold fn_Mo_pass at h
  refine g_aloadn (pc := 0) (i0 := 0) (j := 0) (dK D_Mo_pass 0 rfl) rfl rfl ?_
  refine vg_iconst (pc := 1) (dK D_Mo_pass 1 rfl) ?_
  refine nmE h (fun S1 e_S1 h => ?_)
  refine vg_putI (pc := 2) (ci := 11) (f := 4) (z := 0) (dK D_Mo_pass 2 rfl) q_1446 hc0 (ltK rfl) (ltK rfl) rfl rfl e_S1 ?_
  refine g_aloadn (pc := 5) (i0 := 0) (j := 0) (dK D_Mo_pass 3 rfl) rfl rfl ?_
  refine g_iloadn (pc := 6) (i0 := 1) (j := 1) (dK D_Mo_pass 4 rfl) rfl rfl ?_
  refine vg_i2l (pc := 7) (dK D_Mo_pass 5 rfl) ha1 ?_
  refine vg_lconst (pc := 8) (y := 1) (dK D_Mo_pass 6 rfl) rfl ?_
  refine vg_ldc2 (pc := 9) (y := 500) (dK D_Mo_pass 7 rfl) q_1828 rfl ?_
  refine bnE h (fun p2 e_p2 h => ?_)
  refine vg_cS (pc := 12) (As := [J a1, J 1, J 500]) (rest := [.ref c0]) (mc' := 0) (ms' := 0) (dK D_Mo_pass 8 rfl) K_Mo_67 (fitK rfl) rfl (leK rfl) (leK rfl) (leK rfl) (tf_Mo_inRange (inR_L ha1) (inLk rfl) (inLk rfl) e_p2) (kcB ?_)
  refine vg_ifB_ne (pc := 15) (b := p2) (t := 22) (dK D_Mo_pass 9 rfl) rfl (fun hc3 => ?_) (fun hc3 => ?_)
  · replace h := ifP h hc3
    refine vg_iconst (pc := 22) (dK D_Mo_pass 12 rfl) ?_
    refine vg_iconst (pc := 23) (dK D_Mo_pass 13 rfl) ?_
    refine bnE h (fun p4 e_p4 h => ?_)
    refine vg_cV (pc := 24) (As := [V 0, V 1]) (rest := []) (mc' := 0) (ms' := 0) (dK D_Mo_pass 14 rfl) K_Mo_125 (fitK rfl) (ltK rfl) hc0 rfl (leK rfl) (leK rfl) (leK rfl) (tf_Mo_throwsIf hc0 (inRk rfl) (inRk rfl) e_p4) (kcB ?_)
    refine vg_ifB_eq (pc := 27) (b := p4.1) (t := 32) (dK D_Mo_pass 15 rfl) rfl (fun hc5 => ?_) (fun hc5 => ?_)
    · replace h := ifP h hc5
      refine vg_iconst (pc := 30) (dK D_Mo_pass 16 rfl) ?_
      exact vg_iretI (pc := 31) (r := 0) (dK D_Mo_pass 17 rfl) rfl (leK rfl) (leK rfl) (fun _ => rfl) (by obtain rfl := Option.some.inj h; exact ⟨rfl, (inRk rfl), rfl⟩)
    · replace h := ifN h hc5
      refine g_aloadn (pc := 32) (i0 := 0) (j := 0) (dK D_Mo_pass 18 rfl) rfl rfl ?_
      refine vg_getA (pc := 33) (ci := 11) (f := 0) (dK D_Mo_pass 19 rfl) q_1442 hc0 (ltK rfl) (ltK rfl) rfl ?_
      refine vg_iconst (pc := 36) (dK D_Mo_pass 20 rfl) ?_
      refine vg_iaload (pc := 37) (j := 0) (dK D_Mo_pass 21 rfl) (hw_11_0 hc0) rfl ⟨by decide, by decide⟩ rfl ?_
      refine g_iloadn (pc := 38) (i0 := 1) (j := 1) (dK D_Mo_pass 22 rfl) rfl rfl ?_
      refine vg_iadd (pc := 39) (dK D_Mo_pass 23 rfl) ?_
      refine vg_sipush (pc := 40) (dK D_Mo_pass 24 rfl) rfl ?_
      refine nmE h (fun v6 e_v6 h => ?_)
      refine gsk (st' := [V 9999, V v6]) (by rw [Vn e_v6]) ?_
      refine vg_icmp_le (pc := 43) (t := 49) (dK D_Mo_pass 25 rfl) rfl (Vn_in e_v6) (inRk rfl) (fun hc13 => ?_) (fun hc13 => ?_)
      · replace h := ifP h hc13
        refine g_aloadn (pc := 49) (i0 := 0) (j := 0) (dK D_Mo_pass 28 rfl) rfl rfl ?_
        refine bnE h (fun p7 e_p7 h => ?_)
        refine vg_cV (pc := 50) (As := []) (rest := []) (mc' := 0) (ms' := 0) (dK D_Mo_pass 29 rfl) K_Mo_159 (fitK rfl) (ltK rfl) hc0 rfl (leK rfl) (leK rfl) (leK rfl) (tf_Mo_record hc0 e_p7) (kcU ?_)
        refine vg_iconst (pc := 53) (dK D_Mo_pass 30 rfl) ?_
        refine g_istoren (pc := 54) (i0 := 2) (ls2 := [(2, V 0), (0, .ref c0), (1, V a1)]) (dK D_Mo_pass 31 rfl) rfl (ltK rfl) rfl ?_
        refine vg_iconst (pc := 55) (dK D_Mo_pass 32 rfl) ?_
        refine g_istoren (pc := 56) (i0 := 3) (ls2 := [(3, V 0), (2, V 0), (0, .ref c0), (1, V a1)]) (dK D_Mo_pass 33 rfl) rfl (ltK rfl) rfl ?_
        refine bnE h (fun p12 e_p12 h => ?_)
        refine gL_weak (ls' := [(0, .ref c0), (1, V a1), (2, V 0), (3, V 0)]) (sbc 2 rfl (sbc 3 rfl (sbc 1 rfl (sbc 0 rfl sbn)))) ?_
        refine tl_Mo_pass_57 hc0 ha1 (fun hx2_p12 => ?_) FU (0, 0, p7) e_p12 (inRk rfl) (inRk rfl)
        refine g_iloadn (pc := 75) (i0 := 2) (j := 0) (dK D_Mo_pass 44 rfl) rfl rfl ?_
        exact vg_iretI (pc := 76) (r := p12.1) (dK D_Mo_pass 45 rfl) rfl (leK rfl) (leK rfl) (fun _ => rfl) (by obtain rfl := Option.some.inj h; exact ⟨rfl, hx2_p12, rfl⟩)
      · replace h := ifN h hc13
        refine vg_bipush (pc := 46) (dK D_Mo_pass 26 rfl) rfl ?_
        exact vg_iretI (pc := 48) (r := (-2)) (dK D_Mo_pass 27 rfl) rfl (leK rfl) (leK rfl) (fun _ => rfl) (by obtain rfl := Option.some.inj h; exact ⟨rfl, (inRk rfl), rfl⟩)
  · replace h := ifN h hc3
    refine vg_iconst (pc := 18) (dK D_Mo_pass 10 rfl) ?_
    refine g_goto (pc := 19) (tgt := 23) (dK D_Mo_pass 11 rfl) rfl ?_
    refine vg_iconst (pc := 23) (dK D_Mo_pass 13 rfl) ?_
    refine bnE h (fun p14 e_p14 h => ?_)
    refine vg_cV (pc := 24) (As := [V 1, V 1]) (rest := []) (mc' := 0) (ms' := 0) (dK D_Mo_pass 14 rfl) K_Mo_125 (fitK rfl) (ltK rfl) hc0 rfl (leK rfl) (leK rfl) (leK rfl) (tf_Mo_throwsIf hc0 (inRk rfl) (inRk rfl) e_p14) (kcB ?_)
    refine vg_ifB_eq (pc := 27) (b := p14.1) (t := 32) (dK D_Mo_pass 15 rfl) rfl (fun hc15 => ?_) (fun hc15 => ?_)
    · replace h := ifP h hc15
      refine vg_iconst (pc := 30) (dK D_Mo_pass 16 rfl) ?_
      exact vg_iretI (pc := 31) (r := 0) (dK D_Mo_pass 17 rfl) rfl (leK rfl) (leK rfl) (fun _ => rfl) (by obtain rfl := Option.some.inj h; exact ⟨rfl, (inRk rfl), rfl⟩)
    · replace h := ifN h hc15
      refine g_aloadn (pc := 32) (i0 := 0) (j := 0) (dK D_Mo_pass 18 rfl) rfl rfl ?_
      refine vg_getA (pc := 33) (ci := 11) (f := 0) (dK D_Mo_pass 19 rfl) q_1442 hc0 (ltK rfl) (ltK rfl) rfl ?_
      refine vg_iconst (pc := 36) (dK D_Mo_pass 20 rfl) ?_
      refine vg_iaload (pc := 37) (j := 0) (dK D_Mo_pass 21 rfl) (hw_11_0 hc0) rfl ⟨by decide, by decide⟩ rfl ?_
      refine g_iloadn (pc := 38) (i0 := 1) (j := 1) (dK D_Mo_pass 22 rfl) rfl rfl ?_
      refine vg_iadd (pc := 39) (dK D_Mo_pass 23 rfl) ?_
      refine vg_sipush (pc := 40) (dK D_Mo_pass 24 rfl) rfl ?_
      refine nmE h (fun v16 e_v16 h => ?_)
      refine gsk (st' := [V 9999, V v16]) (by rw [Vn e_v16]) ?_
      refine vg_icmp_le (pc := 43) (t := 49) (dK D_Mo_pass 25 rfl) rfl (Vn_in e_v16) (inRk rfl) (fun hc19 => ?_) (fun hc19 => ?_)
      · replace h := ifP h hc19
        refine g_aloadn (pc := 49) (i0 := 0) (j := 0) (dK D_Mo_pass 28 rfl) rfl rfl ?_
        refine bnE h (fun p17 e_p17 h => ?_)
        refine vg_cV (pc := 50) (As := []) (rest := []) (mc' := 0) (ms' := 0) (dK D_Mo_pass 29 rfl) K_Mo_159 (fitK rfl) (ltK rfl) hc0 rfl (leK rfl) (leK rfl) (leK rfl) (tf_Mo_record hc0 e_p17) (kcU ?_)
        refine vg_iconst (pc := 53) (dK D_Mo_pass 30 rfl) ?_
        refine g_istoren (pc := 54) (i0 := 2) (ls2 := [(2, V 0), (0, .ref c0), (1, V a1)]) (dK D_Mo_pass 31 rfl) rfl (ltK rfl) rfl ?_
        refine vg_iconst (pc := 55) (dK D_Mo_pass 32 rfl) ?_
        refine g_istoren (pc := 56) (i0 := 3) (ls2 := [(3, V 0), (2, V 0), (0, .ref c0), (1, V a1)]) (dK D_Mo_pass 33 rfl) rfl (ltK rfl) rfl ?_
        refine bnE h (fun p18 e_p18 h => ?_)
        refine gL_weak (ls' := [(0, .ref c0), (1, V a1), (2, V 0), (3, V 0)]) (sbc 2 rfl (sbc 3 rfl (sbc 1 rfl (sbc 0 rfl sbn)))) ?_
        refine tl_Mo_pass_57 hc0 ha1 (fun hx2_p18 => ?_) FU (0, 0, p17) e_p18 (inRk rfl) (inRk rfl)
        refine g_iloadn (pc := 75) (i0 := 2) (j := 0) (dK D_Mo_pass 44 rfl) rfl rfl ?_
        exact vg_iretI (pc := 76) (r := p18.1) (dK D_Mo_pass 45 rfl) rfl (leK rfl) (leK rfl) (fun _ => rfl) (by obtain rfl := Option.some.inj h; exact ⟨rfl, hx2_p18, rfl⟩)
      · replace h := ifN h hc19
        refine vg_bipush (pc := 46) (dK D_Mo_pass 26 rfl) rfl ?_
        exact vg_iretI (pc := 48) (r := (-2)) (dK D_Mo_pass 27 rfl) rfl (leK rfl) (leK rfl) (fun _ => rfl) (by obtain rfl := Option.some.inj h; exact ⟨rfl, (inRk rfl), rfl⟩)
def fn_Mo_print (c0 : Nat) (a1 : Int) (S : St) : Option (Int × St) := nm (u S c0 4 0) fun S1 => bnO (fn_Mo_isForm c0 a1 S1) fun p2 => if p2 = true then (bnO (fn_Mo_throwsIf c0 0 1 S1) fun p4 => if p4.1 = true then (some (0, p4.2)) else (bnO (fn_Mo_ofForm c0 a1 1 p4.2) fun p6 => if p6 = 1 then (some ((-4), p4.2)) else (bnO (fn_Mo_lateOnForm c0 a1 p4.2) fun p7 => if p7 ≤ 0 then (bnO (fn_Mo_record c0 p4.2) fun p8 => bnO (fn_Mo_setForm c0 a1 1 1 p8) fun p9 => bnO (fn_Mo_leftOnForm c0 a1 p9) fun p10 => some (p10, p9)) else (some ((-4), p4.2))))) else (bnO (fn_Mo_throwsIf c0 1 1 S1) fun p13 => if p13.1 = true then (some (0, p13.2)) else (bnO (fn_Mo_ofForm c0 a1 1 p13.2) fun p15 => if p15 = 1 then (some ((-4), p13.2)) else (bnO (fn_Mo_lateOnForm c0 a1 p13.2) fun p16 => if p16 ≤ 0 then (bnO (fn_Mo_record c0 p13.2) fun p17 => bnO (fn_Mo_setForm c0 a1 1 1 p17) fun p18 => bnO (fn_Mo_leftOnForm c0 a1 p18) fun p19 => some (p19, p18)) else (some ((-4), p13.2)))))
theorem tf_Mo_print {E : EV} {X : XT} {c0 : Nat} (hc0 : HC X 11 c0) {a1 : Int} (ha1 : inR a1) {S : St} {q : Int × St} (h : fn_Mo_print c0 a1 S = some q) : Ev E M_Mo_print [.ref c0, V a1] (WX X S) 0 0 (KI X q.1 q.2) := by
  refine Ev.of pn_Mo rfl (leK rfl) ?_
  show Go E M_Mo_print 0 0 0 [(0, .ref c0), (1, V a1)] [] (WX X S) 0 0 (KI X q.1 q.2)
  unfold fn_Mo_print at h
  refine g_aloadn (pc := 0) (i0 := 0) (j := 0) (dK D_Mo_print 0 rfl) rfl rfl ?_
  refine vg_iconst (pc := 1) (dK D_Mo_print 1 rfl) ?_
  refine nmE h (fun S1 e_S1 h => ?_)
  refine vg_putI (pc := 2) (ci := 11) (f := 4) (z := 0) (dK D_Mo_print 2 rfl) q_1446 hc0 (ltK rfl) (ltK rfl) rfl rfl e_S1 ?_
  refine g_aloadn (pc := 5) (i0 := 0) (j := 0) (dK D_Mo_print 3 rfl) rfl rfl ?_
  refine g_aloadn (pc := 6) (i0 := 0) (j := 0) (dK D_Mo_print 4 rfl) rfl rfl ?_
  refine g_iloadn (pc := 7) (i0 := 1) (j := 1) (dK D_Mo_print 5 rfl) rfl rfl ?_
  refine bnE h (fun p2 e_p2 h => ?_)
  refine vg_cV (pc := 8) (As := [V a1]) (rest := [.ref c0]) (mc' := 0) (ms' := 0) (dK D_Mo_print 6 rfl) K_Mo_199 (fitK rfl) (ltK rfl) hc0 rfl (leK rfl) (leK rfl) (leK rfl) (tf_Mo_isForm hc0 ha1 e_p2) (kcB ?_)
  refine vg_ifB_ne (pc := 11) (b := p2) (t := 18) (dK D_Mo_print 7 rfl) rfl (fun hc3 => ?_) (fun hc3 => ?_)
  · replace h := ifP h hc3
    refine vg_iconst (pc := 18) (dK D_Mo_print 10 rfl) ?_
    refine vg_iconst (pc := 19) (dK D_Mo_print 11 rfl) ?_
    refine bnE h (fun p4 e_p4 h => ?_)
    refine vg_cV (pc := 20) (As := [V 0, V 1]) (rest := []) (mc' := 0) (ms' := 0) (dK D_Mo_print 12 rfl) K_Mo_125 (fitK rfl) (ltK rfl) hc0 rfl (leK rfl) (leK rfl) (leK rfl) (tf_Mo_throwsIf hc0 (inRk rfl) (inRk rfl) e_p4) (kcB ?_)
    refine vg_ifB_eq (pc := 23) (b := p4.1) (t := 28) (dK D_Mo_print 13 rfl) rfl (fun hc5 => ?_) (fun hc5 => ?_)
    · replace h := ifP h hc5
      refine vg_iconst (pc := 26) (dK D_Mo_print 14 rfl) ?_
      exact vg_iretI (pc := 27) (r := 0) (dK D_Mo_print 15 rfl) rfl (leK rfl) (leK rfl) (fun _ => rfl) (by obtain rfl := Option.some.inj h; exact ⟨rfl, (inRk rfl), rfl⟩)
    · replace h := ifN h hc5
      refine g_aloadn (pc := 28) (i0 := 0) (j := 0) (dK D_Mo_print 16 rfl) rfl rfl ?_
      refine g_iloadn (pc := 29) (i0 := 1) (j := 1) (dK D_Mo_print 17 rfl) rfl rfl ?_
      refine vg_iconst (pc := 30) (dK D_Mo_print 18 rfl) ?_
      refine bnE h (fun p6 e_p6 h => ?_)
      refine vg_cV (pc := 31) (As := [V a1, V 1]) (rest := []) (mc' := 0) (ms' := 0) (dK D_Mo_print 19 rfl) K_Mo_78 (fitK rfl) (ltK rfl) hc0 rfl (leK rfl) (leK rfl) (leK rfl) (tf_Mo_ofForm hc0 ha1 (inRk rfl) e_p6) (kcI (fun h_p6 => ?_))
      refine vg_iconst (pc := 34) (dK D_Mo_print 20 rfl) ?_
      refine vg_icmp_eq (pc := 35) (t := 46) (dK D_Mo_print 21 rfl) rfl h_p6 (inRk rfl) (fun hc12 => ?_) (fun hc12 => ?_)
      · replace h := ifP h hc12
        refine vg_bipush (pc := 46) (dK D_Mo_print 26 rfl) rfl ?_
        exact vg_iretI (pc := 48) (r := (-4)) (dK D_Mo_print 27 rfl) rfl (leK rfl) (leK rfl) (fun _ => rfl) (by obtain rfl := Option.some.inj h; exact ⟨rfl, (inRk rfl), rfl⟩)
      · replace h := ifN h hc12
        refine g_aloadn (pc := 38) (i0 := 0) (j := 0) (dK D_Mo_print 22 rfl) rfl rfl ?_
        refine g_iloadn (pc := 39) (i0 := 1) (j := 1) (dK D_Mo_print 23 rfl) rfl rfl ?_
        refine bnE h (fun p7 e_p7 h => ?_)
        refine vg_cV (pc := 40) (As := [V a1]) (rest := []) (mc' := 0) (ms' := 0) (dK D_Mo_print 24 rfl) K_Mo_208 (fitK rfl) (ltK rfl) hc0 rfl (leK rfl) (leK rfl) (leK rfl) (tf_Mo_lateOnForm hc0 ha1 e_p7) (kcI (fun h_p7 => ?_))
        refine vg_if_le (pc := 43) (t := 49) (dK D_Mo_print 25 rfl) rfl h_p7 (fun hc11 => ?_) (fun hc11 => ?_)
        · replace h := ifP h hc11
          refine g_aloadn (pc := 49) (i0 := 0) (j := 0) (dK D_Mo_print 28 rfl) rfl rfl ?_
          refine bnE h (fun p8 e_p8 h => ?_)
          refine vg_cV (pc := 50) (As := []) (rest := []) (mc' := 0) (ms' := 0) (dK D_Mo_print 29 rfl) K_Mo_159 (fitK rfl) (ltK rfl) hc0 rfl (leK rfl) (leK rfl) (leK rfl) (tf_Mo_record hc0 e_p8) (kcU ?_)
          refine g_aloadn (pc := 53) (i0 := 0) (j := 0) (dK D_Mo_print 30 rfl) rfl rfl ?_
          refine g_iloadn (pc := 54) (i0 := 1) (j := 1) (dK D_Mo_print 31 rfl) rfl rfl ?_
          refine vg_iconst (pc := 55) (dK D_Mo_print 32 rfl) ?_
          refine vg_iconst (pc := 56) (dK D_Mo_print 33 rfl) ?_
          refine bnE h (fun p9 e_p9 h => ?_)
          refine vg_cV (pc := 57) (As := [V a1, V 1, V 1]) (rest := []) (mc' := 0) (ms' := 0) (dK D_Mo_print 34 rfl) K_Mo_232 (fitK rfl) (ltK rfl) hc0 rfl (leK rfl) (leK rfl) (leK rfl) (tf_Mo_setForm hc0 ha1 (inRk rfl) (inRk rfl) e_p9) (kcU ?_)
          refine g_aloadn (pc := 60) (i0 := 0) (j := 0) (dK D_Mo_print 35 rfl) rfl rfl ?_
          refine g_iloadn (pc := 61) (i0 := 1) (j := 1) (dK D_Mo_print 36 rfl) rfl rfl ?_
          refine bnE h (fun p10 e_p10 h => ?_)
          refine vg_cV (pc := 62) (As := [V a1]) (rest := []) (mc' := 0) (ms' := 0) (dK D_Mo_print 37 rfl) K_Mo_202 (fitK rfl) (ltK rfl) hc0 rfl (leK rfl) (leK rfl) (leK rfl) (tf_Mo_leftOnForm hc0 ha1 e_p10) (kcI (fun h_p10 => ?_))
          exact vg_iretI (pc := 65) (r := p10) (dK D_Mo_print 38 rfl) rfl (leK rfl) (leK rfl) (fun _ => rfl) (by obtain rfl := Option.some.inj h; exact ⟨rfl, h_p10, rfl⟩)
        · replace h := ifN h hc11
          refine vg_bipush (pc := 46) (dK D_Mo_print 26 rfl) rfl ?_
          exact vg_iretI (pc := 48) (r := (-4)) (dK D_Mo_print 27 rfl) rfl (leK rfl) (leK rfl) (fun _ => rfl) (by obtain rfl := Option.some.inj h; exact ⟨rfl, (inRk rfl), rfl⟩)
  · replace h := ifN h hc3
    refine vg_iconst (pc := 14) (dK D_Mo_print 8 rfl) ?_
    refine g_goto (pc := 15) (tgt := 19) (dK D_Mo_print 9 rfl) rfl ?_
    refine vg_iconst (pc := 19) (dK D_Mo_print 11 rfl) ?_
    refine bnE h (fun p13 e_p13 h => ?_)
    refine vg_cV (pc := 20) (As := [V 1, V 1]) (rest := []) (mc' := 0) (ms' := 0) (dK D_Mo_print 12 rfl) K_Mo_125 (fitK rfl) (ltK rfl) hc0 rfl (leK rfl) (leK rfl) (leK rfl) (tf_Mo_throwsIf hc0 (inRk rfl) (inRk rfl) e_p13) (kcB ?_)
    refine vg_ifB_eq (pc := 23) (b := p13.1) (t := 28) (dK D_Mo_print 13 rfl) rfl (fun hc14 => ?_) (fun hc14 => ?_)
    · replace h := ifP h hc14
      refine vg_iconst (pc := 26) (dK D_Mo_print 14 rfl) ?_
      exact vg_iretI (pc := 27) (r := 0) (dK D_Mo_print 15 rfl) rfl (leK rfl) (leK rfl) (fun _ => rfl) (by obtain rfl := Option.some.inj h; exact ⟨rfl, (inRk rfl), rfl⟩)
    · replace h := ifN h hc14
      refine g_aloadn (pc := 28) (i0 := 0) (j := 0) (dK D_Mo_print 16 rfl) rfl rfl ?_
      refine g_iloadn (pc := 29) (i0 := 1) (j := 1) (dK D_Mo_print 17 rfl) rfl rfl ?_
      refine vg_iconst (pc := 30) (dK D_Mo_print 18 rfl) ?_
      refine bnE h (fun p15 e_p15 h => ?_)
      refine vg_cV (pc := 31) (As := [V a1, V 1]) (rest := []) (mc' := 0) (ms' := 0) (dK D_Mo_print 19 rfl) K_Mo_78 (fitK rfl) (ltK rfl) hc0 rfl (leK rfl) (leK rfl) (leK rfl) (tf_Mo_ofForm hc0 ha1 (inRk rfl) e_p15) (kcI (fun h_p15 => ?_))
      refine vg_iconst (pc := 34) (dK D_Mo_print 20 rfl) ?_
      refine vg_icmp_eq (pc := 35) (t := 46) (dK D_Mo_print 21 rfl) rfl h_p15 (inRk rfl) (fun hc21 => ?_) (fun hc21 => ?_)
      · replace h := ifP h hc21
        refine vg_bipush (pc := 46) (dK D_Mo_print 26 rfl) rfl ?_
        exact vg_iretI (pc := 48) (r := (-4)) (dK D_Mo_print 27 rfl) rfl (leK rfl) (leK rfl) (fun _ => rfl) (by obtain rfl := Option.some.inj h; exact ⟨rfl, (inRk rfl), rfl⟩)
      · replace h := ifN h hc21
        refine g_aloadn (pc := 38) (i0 := 0) (j := 0) (dK D_Mo_print 22 rfl) rfl rfl ?_
        refine g_iloadn (pc := 39) (i0 := 1) (j := 1) (dK D_Mo_print 23 rfl) rfl rfl ?_
        refine bnE h (fun p16 e_p16 h => ?_)
        refine vg_cV (pc := 40) (As := [V a1]) (rest := []) (mc' := 0) (ms' := 0) (dK D_Mo_print 24 rfl) K_Mo_208 (fitK rfl) (ltK rfl) hc0 rfl (leK rfl) (leK rfl) (leK rfl) (tf_Mo_lateOnForm hc0 ha1 e_p16) (kcI (fun h_p16 => ?_))
        refine vg_if_le (pc := 43) (t := 49) (dK D_Mo_print 25 rfl) rfl h_p16 (fun hc20 => ?_) (fun hc20 => ?_)
        · replace h := ifP h hc20
          refine g_aloadn (pc := 49) (i0 := 0) (j := 0) (dK D_Mo_print 28 rfl) rfl rfl ?_
          refine bnE h (fun p17 e_p17 h => ?_)
          refine vg_cV (pc := 50) (As := []) (rest := []) (mc' := 0) (ms' := 0) (dK D_Mo_print 29 rfl) K_Mo_159 (fitK rfl) (ltK rfl) hc0 rfl (leK rfl) (leK rfl) (leK rfl) (tf_Mo_record hc0 e_p17) (kcU ?_)
          refine g_aloadn (pc := 53) (i0 := 0) (j := 0) (dK D_Mo_print 30 rfl) rfl rfl ?_
          refine g_iloadn (pc := 54) (i0 := 1) (j := 1) (dK D_Mo_print 31 rfl) rfl rfl ?_
          refine vg_iconst (pc := 55) (dK D_Mo_print 32 rfl) ?_
          refine vg_iconst (pc := 56) (dK D_Mo_print 33 rfl) ?_
          refine bnE h (fun p18 e_p18 h => ?_)
          refine vg_cV (pc := 57) (As := [V a1, V 1, V 1]) (rest := []) (mc' := 0) (ms' := 0) (dK D_Mo_print 34 rfl) K_Mo_232 (fitK rfl) (ltK rfl) hc0 rfl (leK rfl) (leK rfl) (leK rfl) (tf_Mo_setForm hc0 ha1 (inRk rfl) (inRk rfl) e_p18) (kcU ?_)
          refine g_aloadn (pc := 60) (i0 := 0) (j := 0) (dK D_Mo_print 35 rfl) rfl rfl ?_
          refine g_iloadn (pc := 61) (i0 := 1) (j := 1) (dK D_Mo_print 36 rfl) rfl rfl ?_
          refine bnE h (fun p19 e_p19 h => ?_)
          refine vg_cV (pc := 62) (As := [V a1]) (rest := []) (mc' := 0) (ms' := 0) (dK D_Mo_print 37 rfl) K_Mo_202 (fitK rfl) (ltK rfl) hc0 rfl (leK rfl) (leK rfl) (leK rfl) (tf_Mo_leftOnForm hc0 ha1 e_p19) (kcI (fun h_p19 => ?_))
          exact vg_iretI (pc := 65) (r := p19) (dK D_Mo_print 38 rfl) rfl (leK rfl) (leK rfl) (fun _ => rfl) (by obtain rfl := Option.some.inj h; exact ⟨rfl, h_p19, rfl⟩)
        · replace h := ifN h hc20
          refine vg_bipush (pc := 46) (dK D_Mo_print 26 rfl) rfl ?_
          exact vg_iretI (pc := 48) (r := (-4)) (dK D_Mo_print 27 rfl) rfl (leK rfl) (leK rfl) (fun _ => rfl) (by obtain rfl := Option.some.inj h; exact ⟨rfl, (inRk rfl), rfl⟩)
def lb_Mo_nextForm_4 (c0 : Nat) (S : St) (go : Int × Int → Option (Int)) (a1 : Int) (a2 : Int) : Option (Int) := bnO (fn_Mo_formMany c0 S) fun p1 => if p1 ≤ a2 then (some a1) else (bnO (fn_Mo_ofForm c0 a2 1 S) fun p2 => if p2 = 0 then (bnO (fn_Mo_ofForm c0 a2 2 S) fun p4 => if p4 = (-1) then (nm (wr (a2 + 1)) fun v5 => go (a1, v5)) else (if a1 = (-1) then (nm (wr (a2 + 1)) fun v6 => go (a2, v6)) else (bnO (fn_Mo_ofForm c0 a2 2 S) fun p7 => bnO (fn_Mo_ofForm c0 a1 2 S) fun p8 => if p8 ≤ p7 then (nm (wr (a2 + 1)) fun v9 => go (a1, v9)) else (nm (wr (a2 + 1)) fun v10 => go (a2, v10))))) else (nm (wr (a2 + 1)) fun v3 => go (a1, v3)))
def lo_Mo_nextForm_4 (c0 : Nat) (S : St) : Nat → Int × Int → Option (Int) := lp fun go p => lb_Mo_nextForm_4 c0 S go p.1 p.2
theorem tl_Mo_nextForm_4 {E : EV} {X : XT} {c0 : Nat} (hc0 : HC X 11 c0) {S : St} {K : RK → PS → Prop} {q : Int} (hx : inR q → Go E M_Mo_nextForm 0 0 59 [(1, V q)] [] (WX X S) 0 0 K) : ∀ n a, lo_Mo_nextForm_4 c0 S n a = some q → inR a.1 → inR a.2 → Go E M_Mo_nextForm 0 0 4 [(0, .ref c0), (1, V a.1), (2, V a.2)] [] (WX X S) 0 0 K := by
  refine lp_ind (P := fun a : Int × Int => inR a.1 → inR a.2 → Go E M_Mo_nextForm 0 0 4 [(0, .ref c0), (1, V a.1), (2, V a.2)] [] (WX X S) 0 0 K) (fun go ih a h => ?_)
  obtain ⟨a1, a2⟩ := a
  intro ha1 ha2
  show Go E M_Mo_nextForm 0 0 4 [(0, .ref c0), (1, V a1), (2, V a2)] [] (WX X S) 0 0 K
  replace h : lb_Mo_nextForm_4 c0 S go a1 a2 = some q := h
  unfold lb_Mo_nextForm_4 at h
  refine g_iloadn (pc := 4) (i0 := 2) (j := 2) (dK D_Mo_nextForm 4 rfl) rfl rfl ?_
  refine g_aloadn (pc := 5) (i0 := 0) (j := 0) (dK D_Mo_nextForm 5 rfl) rfl rfl ?_
  refine bnE h (fun p1 e_p1 h => ?_)
  refine vg_cV (pc := 6) (As := []) (rest := [V a2]) (mc' := 0) (ms' := 0) (dK D_Mo_nextForm 6 rfl) K_Mo_71 (fitK rfl) (ltK rfl) hc0 rfl (leK rfl) (leK rfl) (leK rfl) (tf_Mo_formMany hc0 e_p1) (kcI (fun h_p1 => ?_))
  refine vg_icmp_ge (pc := 9) (t := 59) (dK D_Mo_nextForm 7 rfl) rfl ha2 h_p1 (fun hc15 => ?_) (fun hc15 => ?_)
  · replace h := ifP h hc15
    obtain rfl := Option.some.inj h
    refine gL_weak (ls' := [(1, V a1)]) (sbc 1 rfl sbn) ?_
    exact hx ha1
  · replace h := ifN h hc15
    refine g_aloadn (pc := 12) (i0 := 0) (j := 0) (dK D_Mo_nextForm 8 rfl) rfl rfl ?_
    refine g_iloadn (pc := 13) (i0 := 2) (j := 2) (dK D_Mo_nextForm 9 rfl) rfl rfl ?_
    refine vg_iconst (pc := 14) (dK D_Mo_nextForm 10 rfl) ?_
    refine bnE h (fun p2 e_p2 h => ?_)
    refine vg_cV (pc := 15) (As := [V a2, V 1]) (rest := []) (mc' := 0) (ms' := 0) (dK D_Mo_nextForm 11 rfl) K_Mo_78 (fitK rfl) (ltK rfl) hc0 rfl (leK rfl) (leK rfl) (leK rfl) (tf_Mo_ofForm hc0 ha2 (inRk rfl) e_p2) (kcI (fun h_p2 => ?_))
    refine vg_if_ne (pc := 18) (t := 53) (dK D_Mo_nextForm 12 rfl) rfl h_p2 (fun hc14 => ?_) (fun hc14 => ?_)
    · replace h := ifN h hc14
      refine nmE h (fun v3 e_v3 h => ?_)
      refine vg_iinc (pc := 53) (j := 2) (a := a2) (z := 1) (ls2 := [(2, V v3), (0, .ref c0), (1, V a1)]) (dK D_Mo_nextForm 33 rfl) rfl e_v3 (ltK rfl) rfl ?_
      refine g_goto (pc := 56) (tgt := 4) (dK D_Mo_nextForm 34 rfl) rfl ?_
      refine gL_weak (ls' := [(0, .ref c0), (1, V a1), (2, V v3)]) (sbc 1 rfl (sbc 2 rfl (sbc 0 rfl sbn))) ?_
      replace h := ih _ h
      exact h ha1 (Vn_in e_v3)
    · replace h := ifP h hc14
      refine g_aloadn (pc := 21) (i0 := 0) (j := 0) (dK D_Mo_nextForm 13 rfl) rfl rfl ?_
      refine g_iloadn (pc := 22) (i0 := 2) (j := 2) (dK D_Mo_nextForm 14 rfl) rfl rfl ?_
      refine vg_iconst (pc := 23) (dK D_Mo_nextForm 15 rfl) ?_
      refine bnE h (fun p4 e_p4 h => ?_)
      refine vg_cV (pc := 24) (As := [V a2, V 2]) (rest := []) (mc' := 0) (ms' := 0) (dK D_Mo_nextForm 16 rfl) K_Mo_78 (fitK rfl) (ltK rfl) hc0 rfl (leK rfl) (leK rfl) (leK rfl) (tf_Mo_ofForm hc0 ha2 (inRk rfl) e_p4) (kcI (fun h_p4 => ?_))
      refine vg_iconst (pc := 27) (dK D_Mo_nextForm 17 rfl) ?_
      refine vg_icmp_eq (pc := 28) (t := 53) (dK D_Mo_nextForm 18 rfl) rfl h_p4 (inRk rfl) (fun hc13 => ?_) (fun hc13 => ?_)
      · replace h := ifP h hc13
        refine nmE h (fun v5 e_v5 h => ?_)
        refine vg_iinc (pc := 53) (j := 2) (a := a2) (z := 1) (ls2 := [(2, V v5), (0, .ref c0), (1, V a1)]) (dK D_Mo_nextForm 33 rfl) rfl e_v5 (ltK rfl) rfl ?_
        refine g_goto (pc := 56) (tgt := 4) (dK D_Mo_nextForm 34 rfl) rfl ?_
        refine gL_weak (ls' := [(0, .ref c0), (1, V a1), (2, V v5)]) (sbc 1 rfl (sbc 2 rfl (sbc 0 rfl sbn))) ?_
        replace h := ih _ h
        exact h ha1 (Vn_in e_v5)
      · replace h := ifN h hc13
        refine g_iloadn (pc := 31) (i0 := 1) (j := 1) (dK D_Mo_nextForm 19 rfl) rfl rfl ?_
        refine vg_iconst (pc := 32) (dK D_Mo_nextForm 20 rfl) ?_
        refine vg_icmp_eq (pc := 33) (t := 51) (dK D_Mo_nextForm 21 rfl) rfl ha1 (inRk rfl) (fun hc12 => ?_) (fun hc12 => ?_)
        · replace h := ifP h hc12
          refine g_iloadn (pc := 51) (i0 := 2) (j := 2) (dK D_Mo_nextForm 31 rfl) rfl rfl ?_
          refine g_istoren (pc := 52) (i0 := 1) (ls2 := [(1, V a2), (0, .ref c0), (2, V a2)]) (dK D_Mo_nextForm 32 rfl) rfl (ltK rfl) rfl ?_
          refine nmE h (fun v6 e_v6 h => ?_)
          refine vg_iinc (pc := 53) (j := 2) (a := a2) (z := 1) (ls2 := [(2, V v6), (1, V a2), (0, .ref c0)]) (dK D_Mo_nextForm 33 rfl) rfl e_v6 (ltK rfl) rfl ?_
          refine g_goto (pc := 56) (tgt := 4) (dK D_Mo_nextForm 34 rfl) rfl ?_
          refine gL_weak (ls' := [(0, .ref c0), (1, V a2), (2, V v6)]) (sbc 2 rfl (sbc 1 rfl (sbc 0 rfl sbn))) ?_
          replace h := ih _ h
          exact h ha2 (Vn_in e_v6)
        · replace h := ifN h hc12
          refine g_aloadn (pc := 36) (i0 := 0) (j := 0) (dK D_Mo_nextForm 22 rfl) rfl rfl ?_
          refine g_iloadn (pc := 37) (i0 := 2) (j := 2) (dK D_Mo_nextForm 23 rfl) rfl rfl ?_
          refine vg_iconst (pc := 38) (dK D_Mo_nextForm 24 rfl) ?_
          refine bnE h (fun p7 e_p7 h => ?_)
          refine vg_cV (pc := 39) (As := [V a2, V 2]) (rest := []) (mc' := 0) (ms' := 0) (dK D_Mo_nextForm 25 rfl) K_Mo_78 (fitK rfl) (ltK rfl) hc0 rfl (leK rfl) (leK rfl) (leK rfl) (tf_Mo_ofForm hc0 ha2 (inRk rfl) e_p7) (kcI (fun h_p7 => ?_))
          refine g_aloadn (pc := 42) (i0 := 0) (j := 0) (dK D_Mo_nextForm 26 rfl) rfl rfl ?_
          refine g_iloadn (pc := 43) (i0 := 1) (j := 1) (dK D_Mo_nextForm 27 rfl) rfl rfl ?_
          refine vg_iconst (pc := 44) (dK D_Mo_nextForm 28 rfl) ?_
          refine bnE h (fun p8 e_p8 h => ?_)
          refine vg_cV (pc := 45) (As := [V a1, V 2]) (rest := [V p7]) (mc' := 0) (ms' := 0) (dK D_Mo_nextForm 29 rfl) K_Mo_78 (fitK rfl) (ltK rfl) hc0 rfl (leK rfl) (leK rfl) (leK rfl) (tf_Mo_ofForm hc0 ha1 (inRk rfl) e_p8) (kcI (fun h_p8 => ?_))
          refine vg_icmp_ge (pc := 48) (t := 53) (dK D_Mo_nextForm 30 rfl) rfl h_p7 h_p8 (fun hc11 => ?_) (fun hc11 => ?_)
          · replace h := ifP h hc11
            refine nmE h (fun v9 e_v9 h => ?_)
            refine vg_iinc (pc := 53) (j := 2) (a := a2) (z := 1) (ls2 := [(2, V v9), (0, .ref c0), (1, V a1)]) (dK D_Mo_nextForm 33 rfl) rfl e_v9 (ltK rfl) rfl ?_
            refine g_goto (pc := 56) (tgt := 4) (dK D_Mo_nextForm 34 rfl) rfl ?_
            refine gL_weak (ls' := [(0, .ref c0), (1, V a1), (2, V v9)]) (sbc 1 rfl (sbc 2 rfl (sbc 0 rfl sbn))) ?_
            replace h := ih _ h
            exact h ha1 (Vn_in e_v9)
          · replace h := ifN h hc11
            refine g_iloadn (pc := 51) (i0 := 2) (j := 2) (dK D_Mo_nextForm 31 rfl) rfl rfl ?_
            refine g_istoren (pc := 52) (i0 := 1) (ls2 := [(1, V a2), (0, .ref c0), (2, V a2)]) (dK D_Mo_nextForm 32 rfl) rfl (ltK rfl) rfl ?_
            refine nmE h (fun v10 e_v10 h => ?_)
            refine vg_iinc (pc := 53) (j := 2) (a := a2) (z := 1) (ls2 := [(2, V v10), (1, V a2), (0, .ref c0)]) (dK D_Mo_nextForm 33 rfl) rfl e_v10 (ltK rfl) rfl ?_
            refine g_goto (pc := 56) (tgt := 4) (dK D_Mo_nextForm 34 rfl) rfl ?_
            refine gL_weak (ls' := [(0, .ref c0), (1, V a2), (2, V v10)]) (sbc 2 rfl (sbc 1 rfl (sbc 0 rfl sbn))) ?_
            replace h := ih _ h
            exact h ha2 (Vn_in e_v10)
def fn_Mo_nextForm (c0 : Nat) (S : St) : Option (Int) := bnO (lo_Mo_nextForm_4 c0 S FU ((-1), 0)) fun p16 => some p16
theorem tf_Mo_nextForm {E : EV} {X : XT} {c0 : Nat} (hc0 : HC X 11 c0) {S : St} {q : Int} (h : fn_Mo_nextForm c0 S = some q) : Ev E M_Mo_nextForm [.ref c0] (WX X S) 0 0 (KI X q S) := by
  refine Ev.of pn_Mo rfl (leK rfl) ?_
  show Go E M_Mo_nextForm 0 0 0 [(0, .ref c0)] [] (WX X S) 0 0 (KI X q S)
  unfold fn_Mo_nextForm at h
  refine vg_iconst (pc := 0) (dK D_Mo_nextForm 0 rfl) ?_
  refine g_istoren (pc := 1) (i0 := 1) (ls2 := [(1, V (-1)), (0, .ref c0)]) (dK D_Mo_nextForm 1 rfl) rfl (ltK rfl) rfl ?_
  refine vg_iconst (pc := 2) (dK D_Mo_nextForm 2 rfl) ?_
  refine g_istoren (pc := 3) (i0 := 2) (ls2 := [(2, V 0), (1, V (-1)), (0, .ref c0)]) (dK D_Mo_nextForm 3 rfl) rfl (ltK rfl) rfl ?_
  refine bnE h (fun p16 e_p16 h => ?_)
  refine gL_weak (ls' := [(0, .ref c0), (1, V (-1)), (2, V 0)]) (sbc 2 rfl (sbc 1 rfl (sbc 0 rfl sbn))) ?_
  refine tl_Mo_nextForm_4 hc0 (fun hx1_p16 => ?_) FU ((-1), 0) e_p16 (inRk rfl) (inRk rfl)
  refine g_iloadn (pc := 59) (i0 := 1) (j := 0) (dK D_Mo_nextForm 35 rfl) rfl rfl ?_
  exact vg_iretI (pc := 60) (r := p16) (dK D_Mo_nextForm 36 rfl) rfl (leK rfl) (leK rfl) (fun _ => rfl) (by obtain rfl := Option.some.inj h; exact ⟨rfl, hx1_p16, rfl⟩)
def fn_Mo_nextClosing (c0 : Nat) (S : St) : Option (Int × St) := nm (u S c0 4 0) fun S1 => bnO (fn_Mo_nextForm c0 S1) fun p2 => some (p2, S1)
theorem tf_Mo_nextClosing {E : EV} {X : XT} {c0 : Nat} (hc0 : HC X 11 c0) {S : St} {q : Int × St} (h : fn_Mo_nextClosing c0 S = some q) : Ev E M_Mo_nextClosing [.ref c0] (WX X S) 0 0 (KI X q.1 q.2) := by
  refine Ev.of pn_Mo rfl (leK rfl) ?_
  show Go E M_Mo_nextClosing 0 0 0 [(0, .ref c0)] [] (WX X S) 0 0 (KI X q.1 q.2)
  unfold fn_Mo_nextClosing at h
  refine g_aloadn (pc := 0) (i0 := 0) (j := 0) (dK D_Mo_nextClosing 0 rfl) rfl rfl ?_
  refine vg_iconst (pc := 1) (dK D_Mo_nextClosing 1 rfl) ?_
  refine nmE h (fun S1 e_S1 h => ?_)
  refine vg_putI (pc := 2) (ci := 11) (f := 4) (z := 0) (dK D_Mo_nextClosing 2 rfl) q_1446 hc0 (ltK rfl) (ltK rfl) rfl rfl e_S1 ?_
  refine g_aloadn (pc := 5) (i0 := 0) (j := 0) (dK D_Mo_nextClosing 3 rfl) rfl rfl ?_
  refine bnE h (fun p2 e_p2 h => ?_)
  refine vg_cV (pc := 6) (As := []) (rest := []) (mc' := 0) (ms' := 0) (dK D_Mo_nextClosing 4 rfl) K_Mo_246 (fitK rfl) (ltK rfl) hc0 rfl (leK rfl) (leK rfl) (leK rfl) (tf_Mo_nextForm hc0 e_p2) (kcI (fun h_p2 => ?_))
  exact vg_iretI (pc := 9) (r := p2) (dK D_Mo_nextClosing 5 rfl) rfl (leK rfl) (leK rfl) (fun _ => rfl) (by obtain rfl := Option.some.inj h; exact ⟨rfl, h_p2, rfl⟩)
def fn_Mo_lost (c0 : Nat) (S : St) : Option (Int × St) := nm (u S c0 4 0) fun S1 => some ((g S1 (tgt c0 0) 4), S1)
theorem tf_Mo_lost {E : EV} {X : XT} {c0 : Nat} (hc0 : HC X 11 c0) {S : St} {q : Int × St} (h : fn_Mo_lost c0 S = some q) : Ev E M_Mo_lost [.ref c0] (WX X S) 0 0 (KI X q.1 q.2) := by
  refine Ev.of pn_Mo rfl (leK rfl) ?_
  show Go E M_Mo_lost 0 0 0 [(0, .ref c0)] [] (WX X S) 0 0 (KI X q.1 q.2)
  unfold fn_Mo_lost at h
  refine g_aloadn (pc := 0) (i0 := 0) (j := 0) (dK D_Mo_lost 0 rfl) rfl rfl ?_
  refine vg_iconst (pc := 1) (dK D_Mo_lost 1 rfl) ?_
  refine nmE h (fun S1 e_S1 h => ?_)
  refine vg_putI (pc := 2) (ci := 11) (f := 4) (z := 0) (dK D_Mo_lost 2 rfl) q_1446 hc0 (ltK rfl) (ltK rfl) rfl rfl e_S1 ?_
  refine g_aloadn (pc := 5) (i0 := 0) (j := 0) (dK D_Mo_lost 3 rfl) rfl rfl ?_
  refine vg_getA (pc := 6) (ci := 11) (f := 0) (dK D_Mo_lost 4 rfl) q_1442 hc0 (ltK rfl) (ltK rfl) rfl ?_
  refine vg_iconst (pc := 9) (dK D_Mo_lost 5 rfl) ?_
  refine vg_iaload (pc := 10) (j := 4) (dK D_Mo_lost 6 rfl) (hw_11_0 hc0) rfl ⟨by decide, by decide⟩ rfl ?_
  exact vg_iretI (pc := 11) (r := (g S1 (tgt c0 0) 4)) (dK D_Mo_lost 7 rfl) rfl (leK rfl) (leK rfl) (fun _ => rfl) (by obtain rfl := Option.some.inj h; exact ⟨rfl, (g_in _ _ _), rfl⟩)
def lb_Mo_endangered_23 (c0 : Nat) (a1 : Int) (go : Int × St → Option (St)) (a2 : Int) (S : St) : Option (St) := if a2 = (-1) then (some S) else (bnO (fn_Mo_ofForm c0 a2 2 S) fun p4 => nm (u S (tgt c0 0) 0 p4) fun S5 => bnO (fn_Mo_close c0 a2 S5) fun p6 => bnO (fn_Mo_nextForm c0 p6) fun p7 => go (p7, p6))
def lo_Mo_endangered_23 (c0 : Nat) (a1 : Int) : Nat → Int × St → Option (St) := lp fun go p => lb_Mo_endangered_23 c0 a1 go p.1 p.2
theorem tl_Mo_endangered_23 {E : EV} {X : XT} {c0 : Nat} (hc0 : HC X 11 c0) {a1 : Int} (ha1 : inR a1) {K : RK → PS → Prop} {q : St} (hx : Go E M_Mo_endangered 0 0 53 [(0, .ref c0), (1, V a1)] [] (WX X q) 0 0 K) : ∀ n a, lo_Mo_endangered_23 c0 a1 n a = some q → inR a.1 → Go E M_Mo_endangered 0 0 23 [(0, .ref c0), (1, V a1), (2, V a.1)] [] (WX X a.2) 0 0 K := by
  refine lp_ind (P := fun a : Int × St => inR a.1 → Go E M_Mo_endangered 0 0 23 [(0, .ref c0), (1, V a1), (2, V a.1)] [] (WX X a.2) 0 0 K) (fun go ih a h => ?_)
  obtain ⟨a2, S⟩ := a
  intro ha2
  show Go E M_Mo_endangered 0 0 23 [(0, .ref c0), (1, V a1), (2, V a2)] [] (WX X S) 0 0 K
  replace h : lb_Mo_endangered_23 c0 a1 go a2 S = some q := h
  unfold lb_Mo_endangered_23 at h
  refine g_iloadn (pc := 23) (i0 := 2) (j := 2) (dK D_Mo_endangered 15 rfl) rfl rfl ?_
  refine vg_iconst (pc := 24) (dK D_Mo_endangered 16 rfl) ?_
  refine vg_icmp_eq (pc := 25) (t := 53) (dK D_Mo_endangered 17 rfl) rfl ha2 (inRk rfl) (fun hc8 => ?_) (fun hc8 => ?_)
  · replace h := ifP h hc8
    obtain rfl := Option.some.inj h
    refine gL_weak (ls' := [(0, .ref c0), (1, V a1)]) (sbc 0 rfl (sbc 1 rfl sbn)) ?_
    exact hx 
  · replace h := ifN h hc8
    refine g_aloadn (pc := 28) (i0 := 0) (j := 0) (dK D_Mo_endangered 18 rfl) rfl rfl ?_
    refine vg_getA (pc := 29) (ci := 11) (f := 0) (dK D_Mo_endangered 19 rfl) q_1442 hc0 (ltK rfl) (ltK rfl) rfl ?_
    refine vg_iconst (pc := 32) (dK D_Mo_endangered 20 rfl) ?_
    refine g_aloadn (pc := 33) (i0 := 0) (j := 0) (dK D_Mo_endangered 21 rfl) rfl rfl ?_
    refine g_iloadn (pc := 34) (i0 := 2) (j := 2) (dK D_Mo_endangered 22 rfl) rfl rfl ?_
    refine vg_iconst (pc := 35) (dK D_Mo_endangered 23 rfl) ?_
    refine bnE h (fun p4 e_p4 h => ?_)
    refine vg_cV (pc := 36) (As := [V a2, V 2]) (rest := [V 0, .ref (tgt c0 0)]) (mc' := 0) (ms' := 0) (dK D_Mo_endangered 24 rfl) K_Mo_78 (fitK rfl) (ltK rfl) hc0 rfl (leK rfl) (leK rfl) (leK rfl) (tf_Mo_ofForm hc0 ha2 (inRk rfl) e_p4) (kcI (fun h_p4 => ?_))
    refine nmE h (fun S5 e_S5 h => ?_)
    refine vg_iastore (pc := 39) (z := p4) (dK D_Mo_endangered 25 rfl) (hw_11_0 hc0) rfl ⟨by decide, by decide⟩ rfl e_S5 ?_
    refine g_aloadn (pc := 40) (i0 := 0) (j := 0) (dK D_Mo_endangered 26 rfl) rfl rfl ?_
    refine g_iloadn (pc := 41) (i0 := 2) (j := 2) (dK D_Mo_endangered 27 rfl) rfl rfl ?_
    refine bnE h (fun p6 e_p6 h => ?_)
    refine vg_cV (pc := 42) (As := [V a2]) (rest := []) (mc' := 0) (ms' := 0) (dK D_Mo_endangered 28 rfl) K_Mo_238 (fitK rfl) (ltK rfl) hc0 rfl (leK rfl) (leK rfl) (leK rfl) (tf_Mo_close hc0 ha2 e_p6) (kcU ?_)
    refine g_aloadn (pc := 45) (i0 := 0) (j := 0) (dK D_Mo_endangered 29 rfl) rfl rfl ?_
    refine bnE h (fun p7 e_p7 h => ?_)
    refine vg_cV (pc := 46) (As := []) (rest := []) (mc' := 0) (ms' := 0) (dK D_Mo_endangered 30 rfl) K_Mo_246 (fitK rfl) (ltK rfl) hc0 rfl (leK rfl) (leK rfl) (leK rfl) (tf_Mo_nextForm hc0 e_p7) (kcI (fun h_p7 => ?_))
    refine g_istoren (pc := 49) (i0 := 2) (ls2 := [(2, V p7), (0, .ref c0), (1, V a1)]) (dK D_Mo_endangered 31 rfl) rfl (ltK rfl) rfl ?_
    refine g_goto (pc := 50) (tgt := 23) (dK D_Mo_endangered 32 rfl) rfl ?_
    refine gL_weak (ls' := [(0, .ref c0), (1, V a1), (2, V p7)]) (sbc 1 rfl (sbc 2 rfl (sbc 0 rfl sbn))) ?_
    replace h := ih _ h
    exact h h_p7
def fn_Mo_endangered (c0 : Nat) (S : St) : Option (Int × St) := nm (u S c0 4 0) fun S1 => bnO (fn_Mo_copyBlock c0 0 2 S1) fun p2 => bnO (fn_Mo_nextForm c0 p2) fun p3 => bnO (lo_Mo_endangered_23 c0 (g p2 (tgt c0 0) 4) FU (p3, p2)) fun p9 => nm (wr ((g p9 (tgt c0 0) 4) - (g p2 (tgt c0 0) 4))) fun v10 => bnO (fn_Mo_copyBlock c0 2 0 p9) fun p11 => some (v10, p11)
theorem tf_Mo_endangered {E : EV} {X : XT} {c0 : Nat} (hc0 : HC X 11 c0) {S : St} {q : Int × St} (h : fn_Mo_endangered c0 S = some q) : Ev E M_Mo_endangered [.ref c0] (WX X S) 0 0 (KI X q.1 q.2) := by
  refine Ev.of pn_Mo rfl (leK rfl) ?_
  show Go E M_Mo_endangered 0 0 0 [(0, .ref c0)] [] (WX X S) 0 0 (KI X q.1 q.2)
  unfold fn_Mo_endangered at h
  refine g_aloadn (pc := 0) (i0 := 0) (j := 0) (dK D_Mo_endangered 0 rfl) rfl rfl ?_
  refine vg_iconst (pc := 1) (dK D_Mo_endangered 1 rfl) ?_
  refine nmE h (fun S1 e_S1 h => ?_)
  refine vg_putI (pc := 2) (ci := 11) (f := 4) (z := 0) (dK D_Mo_endangered 2 rfl) q_1446 hc0 (ltK rfl) (ltK rfl) rfl rfl e_S1 ?_
  refine g_aloadn (pc := 5) (i0 := 0) (j := 0) (dK D_Mo_endangered 3 rfl) rfl rfl ?_
  refine vg_iconst (pc := 6) (dK D_Mo_endangered 4 rfl) ?_
  refine vg_iconst (pc := 7) (dK D_Mo_endangered 5 rfl) ?_
  refine bnE h (fun p2 e_p2 h => ?_)
  refine vg_cV (pc := 8) (As := [V 0, V 2]) (rest := []) (mc' := 0) (ms' := 0) (dK D_Mo_endangered 6 rfl) K_Mo_59 (fitK rfl) (ltK rfl) hc0 rfl (leK rfl) (leK rfl) (leK rfl) (tf_Mo_copyBlock hc0 (inRk rfl) (inRk rfl) e_p2) (kcU ?_)
  refine g_aloadn (pc := 11) (i0 := 0) (j := 0) (dK D_Mo_endangered 7 rfl) rfl rfl ?_
  refine vg_getA (pc := 12) (ci := 11) (f := 0) (dK D_Mo_endangered 8 rfl) q_1442 hc0 (ltK rfl) (ltK rfl) rfl ?_
  refine vg_iconst (pc := 15) (dK D_Mo_endangered 9 rfl) ?_
  refine vg_iaload (pc := 16) (j := 4) (dK D_Mo_endangered 10 rfl) (hw_11_0 hc0) rfl ⟨by decide, by decide⟩ rfl ?_
  refine g_istoren (pc := 17) (i0 := 1) (ls2 := [(1, V (g p2 (tgt c0 0) 4)), (0, .ref c0)]) (dK D_Mo_endangered 11 rfl) rfl (ltK rfl) rfl ?_
  refine g_aloadn (pc := 18) (i0 := 0) (j := 1) (dK D_Mo_endangered 12 rfl) rfl rfl ?_
  refine bnE h (fun p3 e_p3 h => ?_)
  refine vg_cV (pc := 19) (As := []) (rest := []) (mc' := 0) (ms' := 0) (dK D_Mo_endangered 13 rfl) K_Mo_246 (fitK rfl) (ltK rfl) hc0 rfl (leK rfl) (leK rfl) (leK rfl) (tf_Mo_nextForm hc0 e_p3) (kcI (fun h_p3 => ?_))
  refine g_istoren (pc := 22) (i0 := 2) (ls2 := [(2, V p3), (1, V (g p2 (tgt c0 0) 4)), (0, .ref c0)]) (dK D_Mo_endangered 14 rfl) rfl (ltK rfl) rfl ?_
  refine bnE h (fun p9 e_p9 h => ?_)
  refine gL_weak (ls' := [(0, .ref c0), (1, V (g p2 (tgt c0 0) 4)), (2, V p3)]) (sbc 2 rfl (sbc 1 rfl (sbc 0 rfl sbn))) ?_
  refine tl_Mo_endangered_23 hc0 (g_in _ _ _) ?_ FU (p3, p2) e_p9 h_p3
  refine g_aloadn (pc := 53) (i0 := 0) (j := 0) (dK D_Mo_endangered 33 rfl) rfl rfl ?_
  refine vg_getA (pc := 54) (ci := 11) (f := 0) (dK D_Mo_endangered 34 rfl) q_1442 hc0 (ltK rfl) (ltK rfl) rfl ?_
  refine vg_iconst (pc := 57) (dK D_Mo_endangered 35 rfl) ?_
  refine vg_iaload (pc := 58) (j := 4) (dK D_Mo_endangered 36 rfl) (hw_11_0 hc0) rfl ⟨by decide, by decide⟩ rfl ?_
  refine g_iloadn (pc := 59) (i0 := 1) (j := 1) (dK D_Mo_endangered 37 rfl) rfl rfl ?_
  refine vg_isub (pc := 60) (dK D_Mo_endangered 38 rfl) ?_
  refine nmE h (fun v10 e_v10 h => ?_)
  refine gtop e_v10 ?_
  refine g_istoren (pc := 61) (i0 := 2) (ls2 := [(2, V v10), (0, .ref c0), (1, V (g p2 (tgt c0 0) 4))]) (dK D_Mo_endangered 39 rfl) rfl (ltK rfl) rfl ?_
  refine g_aloadn (pc := 62) (i0 := 0) (j := 1) (dK D_Mo_endangered 40 rfl) rfl rfl ?_
  refine vg_iconst (pc := 63) (dK D_Mo_endangered 41 rfl) ?_
  refine vg_iconst (pc := 64) (dK D_Mo_endangered 42 rfl) ?_
  refine bnE h (fun p11 e_p11 h => ?_)
  refine vg_cV (pc := 65) (As := [V 2, V 0]) (rest := []) (mc' := 0) (ms' := 0) (dK D_Mo_endangered 43 rfl) K_Mo_59 (fitK rfl) (ltK rfl) hc0 rfl (leK rfl) (leK rfl) (leK rfl) (tf_Mo_copyBlock hc0 (inRk rfl) (inRk rfl) e_p11) (kcU ?_)
  refine g_iloadn (pc := 68) (i0 := 2) (j := 0) (dK D_Mo_endangered 44 rfl) rfl rfl ?_
  exact vg_iretI (pc := 69) (r := v10) (dK D_Mo_endangered 45 rfl) rfl (leK rfl) (leK rfl) (fun _ => rfl) (by obtain rfl := Option.some.inj h; exact ⟨rfl, (Vn_in e_v10), rfl⟩)
def fn_Mo_isAhead (c0 : Nat) (a1 : Int) (a2 : Int) (S : St) : Option (Bool) := bnO (fn_Mo_ofAd c0 a1 4 S) fun p1 => bnO (fn_Mo_ofAd c0 a2 4 S) fun p2 => if p1 = p2 then (bnO (fn_Mo_ofAd c0 a1 0 S) fun p3 => bnO (fn_Mo_ofAd c0 a2 0 S) fun p4 => if p3 = p4 then (if a2 ≤ a1 then (some false) else (some true)) else (bnO (fn_Mo_ofAd c0 a1 0 S) fun p6 => bnO (fn_Mo_ofAd c0 a2 0 S) fun p7 => if p6 ≤ p7 then (some false) else (some true))) else (bnO (fn_Mo_ofAd c0 a1 4 S) fun p10 => bnO (fn_Mo_ofAd c0 a2 4 S) fun p11 => if p10 ≤ p11 then (some false) else (some true))
theorem tf_Mo_isAhead {E : EV} {X : XT} {c0 : Nat} (hc0 : HC X 11 c0) {a1 : Int} (ha1 : inR a1) {a2 : Int} (ha2 : inR a2) {S : St} {q : Bool} (h : fn_Mo_isAhead c0 a1 a2 S = some q) : Ev E M_Mo_isAhead [.ref c0, V a1, V a2] (WX X S) 0 0 (KB X q S) := by
  refine Ev.of pn_Mo rfl (leK rfl) ?_
  show Go E M_Mo_isAhead 0 0 0 [(0, .ref c0), (1, V a1), (2, V a2)] [] (WX X S) 0 0 (KB X q S)
  unfold fn_Mo_isAhead at h
  refine g_aloadn (pc := 0) (i0 := 0) (j := 0) (dK D_Mo_isAhead_0 0 rfl) rfl rfl ?_
  refine g_iloadn (pc := 1) (i0 := 1) (j := 1) (dK D_Mo_isAhead_0 1 rfl) rfl rfl ?_
  refine vg_iconst (pc := 2) (dK D_Mo_isAhead_0 2 rfl) ?_
  refine bnE h (fun p1 e_p1 h => ?_)
  refine vg_cV (pc := 3) (As := [V a1, V 4]) (rest := []) (mc' := 0) (ms' := 0) (dK D_Mo_isAhead_0 3 rfl) K_Mo_82 (fitK rfl) (ltK rfl) hc0 rfl (leK rfl) (leK rfl) (leK rfl) (tf_Mo_ofAd hc0 ha1 (inRk rfl) e_p1) (kcI (fun h_p1 => ?_))
  refine g_aloadn (pc := 6) (i0 := 0) (j := 0) (dK D_Mo_isAhead_0 4 rfl) rfl rfl ?_
  refine g_iloadn (pc := 7) (i0 := 2) (j := 2) (dK D_Mo_isAhead_0 5 rfl) rfl rfl ?_
  refine vg_iconst (pc := 8) (dK D_Mo_isAhead_0 6 rfl) ?_
  refine bnE h (fun p2 e_p2 h => ?_)
  refine vg_cV (pc := 9) (As := [V a2, V 4]) (rest := [V p1]) (mc' := 0) (ms' := 0) (dK D_Mo_isAhead_0 7 rfl) K_Mo_82 (fitK rfl) (ltK rfl) hc0 rfl (leK rfl) (leK rfl) (leK rfl) (tf_Mo_ofAd hc0 ha2 (inRk rfl) e_p2) (kcI (fun h_p2 => ?_))
  refine vg_icmp_eq (pc := 12) (t := 36) (dK D_Mo_isAhead_0 8 rfl) rfl h_p1 h_p2 (fun hc13 => ?_) (fun hc13 => ?_)
  · replace h := ifP h hc13
    refine g_aloadn (pc := 36) (i0 := 0) (j := 0) (dK D_Mo_isAhead_0 22 rfl) rfl rfl ?_
    refine g_iloadn (pc := 37) (i0 := 1) (j := 1) (dK D_Mo_isAhead_0 23 rfl) rfl rfl ?_
    refine vg_iconst (pc := 38) (dK D_Mo_isAhead_0 24 rfl) ?_
    refine bnE h (fun p3 e_p3 h => ?_)
    refine vg_cV (pc := 39) (As := [V a1, V 0]) (rest := []) (mc' := 0) (ms' := 0) (dK D_Mo_isAhead_0 25 rfl) K_Mo_82 (fitK rfl) (ltK rfl) hc0 rfl (leK rfl) (leK rfl) (leK rfl) (tf_Mo_ofAd hc0 ha1 (inRk rfl) e_p3) (kcI (fun h_p3 => ?_))
    refine g_aloadn (pc := 42) (i0 := 0) (j := 0) (dK D_Mo_isAhead_0 26 rfl) rfl rfl ?_
    refine g_iloadn (pc := 43) (i0 := 2) (j := 2) (dK D_Mo_isAhead_0 27 rfl) rfl rfl ?_
    refine vg_iconst (pc := 44) (dK D_Mo_isAhead_0 28 rfl) ?_
    refine bnE h (fun p4 e_p4 h => ?_)
    refine vg_cV (pc := 45) (As := [V a2, V 0]) (rest := [V p3]) (mc' := 0) (ms' := 0) (dK D_Mo_isAhead_0 29 rfl) K_Mo_82 (fitK rfl) (ltK rfl) hc0 rfl (leK rfl) (leK rfl) (leK rfl) (tf_Mo_ofAd hc0 ha2 (inRk rfl) e_p4) (kcI (fun h_p4 => ?_))
    refine vg_icmp_eq (pc := 48) (t := 74) (dK D_Mo_isAhead_0 30 rfl) rfl h_p3 h_p4 (fun hc9 => ?_) (fun hc9 => ?_)
    · replace h := ifP h hc9
      refine g_iloadn (pc := 74) (i0 := 1) (j := 1) (dK D_Mo_isAhead_0 44 rfl) rfl rfl ?_
      refine g_iloadn (pc := 75) (i0 := 2) (j := 2) (dK D_Mo_isAhead_0 45 rfl) rfl rfl ?_
      refine vg_icmp_ge (pc := 76) (t := 83) (dK D_Mo_isAhead_0 46 rfl) rfl ha1 ha2 (fun hc5 => ?_) (fun hc5 => ?_)
      · replace h := ifP h hc5
        refine vg_iconst (pc := 83) (dK D_Mo_isAhead_0 49 rfl) ?_
        exact vg_iretB (pc := 84) (b := false) (dK D_Mo_isAhead_1 0 rfl) rfl (leK rfl) (leK rfl) (fun _ => rfl) (by obtain rfl := Option.some.inj h; exact ⟨rfl, rfl⟩)
      · replace h := ifN h hc5
        refine vg_iconst (pc := 79) (dK D_Mo_isAhead_0 47 rfl) ?_
        refine g_goto (pc := 80) (tgt := 84) (dK D_Mo_isAhead_0 48 rfl) rfl ?_
        exact vg_iretB (pc := 84) (b := true) (dK D_Mo_isAhead_1 0 rfl) rfl (leK rfl) (leK rfl) (fun _ => rfl) (by obtain rfl := Option.some.inj h; exact ⟨rfl, rfl⟩)
    · replace h := ifN h hc9
      refine g_aloadn (pc := 51) (i0 := 0) (j := 0) (dK D_Mo_isAhead_0 31 rfl) rfl rfl ?_
      refine g_iloadn (pc := 52) (i0 := 1) (j := 1) (dK D_Mo_isAhead_0 32 rfl) rfl rfl ?_
      refine vg_iconst (pc := 53) (dK D_Mo_isAhead_0 33 rfl) ?_
      refine bnE h (fun p6 e_p6 h => ?_)
      refine vg_cV (pc := 54) (As := [V a1, V 0]) (rest := []) (mc' := 0) (ms' := 0) (dK D_Mo_isAhead_0 34 rfl) K_Mo_82 (fitK rfl) (ltK rfl) hc0 rfl (leK rfl) (leK rfl) (leK rfl) (tf_Mo_ofAd hc0 ha1 (inRk rfl) e_p6) (kcI (fun h_p6 => ?_))
      refine g_aloadn (pc := 57) (i0 := 0) (j := 0) (dK D_Mo_isAhead_0 35 rfl) rfl rfl ?_
      refine g_iloadn (pc := 58) (i0 := 2) (j := 2) (dK D_Mo_isAhead_0 36 rfl) rfl rfl ?_
      refine vg_iconst (pc := 59) (dK D_Mo_isAhead_0 37 rfl) ?_
      refine bnE h (fun p7 e_p7 h => ?_)
      refine vg_cV (pc := 60) (As := [V a2, V 0]) (rest := [V p6]) (mc' := 0) (ms' := 0) (dK D_Mo_isAhead_0 38 rfl) K_Mo_82 (fitK rfl) (ltK rfl) hc0 rfl (leK rfl) (leK rfl) (leK rfl) (tf_Mo_ofAd hc0 ha2 (inRk rfl) e_p7) (kcI (fun h_p7 => ?_))
      refine vg_icmp_le (pc := 63) (t := 70) (dK D_Mo_isAhead_0 39 rfl) rfl h_p6 h_p7 (fun hc8 => ?_) (fun hc8 => ?_)
      · replace h := ifP h hc8
        refine vg_iconst (pc := 70) (dK D_Mo_isAhead_0 42 rfl) ?_
        refine g_goto (pc := 71) (tgt := 84) (dK D_Mo_isAhead_0 43 rfl) rfl ?_
        exact vg_iretB (pc := 84) (b := false) (dK D_Mo_isAhead_1 0 rfl) rfl (leK rfl) (leK rfl) (fun _ => rfl) (by obtain rfl := Option.some.inj h; exact ⟨rfl, rfl⟩)
      · replace h := ifN h hc8
        refine vg_iconst (pc := 66) (dK D_Mo_isAhead_0 40 rfl) ?_
        refine g_goto (pc := 67) (tgt := 84) (dK D_Mo_isAhead_0 41 rfl) rfl ?_
        exact vg_iretB (pc := 84) (b := true) (dK D_Mo_isAhead_1 0 rfl) rfl (leK rfl) (leK rfl) (fun _ => rfl) (by obtain rfl := Option.some.inj h; exact ⟨rfl, rfl⟩)
  · replace h := ifN h hc13
    refine g_aloadn (pc := 15) (i0 := 0) (j := 0) (dK D_Mo_isAhead_0 9 rfl) rfl rfl ?_
    refine g_iloadn (pc := 16) (i0 := 1) (j := 1) (dK D_Mo_isAhead_0 10 rfl) rfl rfl ?_
    refine vg_iconst (pc := 17) (dK D_Mo_isAhead_0 11 rfl) ?_
    refine bnE h (fun p10 e_p10 h => ?_)
    refine vg_cV (pc := 18) (As := [V a1, V 4]) (rest := []) (mc' := 0) (ms' := 0) (dK D_Mo_isAhead_0 12 rfl) K_Mo_82 (fitK rfl) (ltK rfl) hc0 rfl (leK rfl) (leK rfl) (leK rfl) (tf_Mo_ofAd hc0 ha1 (inRk rfl) e_p10) (kcI (fun h_p10 => ?_))
    refine g_aloadn (pc := 21) (i0 := 0) (j := 0) (dK D_Mo_isAhead_0 13 rfl) rfl rfl ?_
    refine g_iloadn (pc := 22) (i0 := 2) (j := 2) (dK D_Mo_isAhead_0 14 rfl) rfl rfl ?_
    refine vg_iconst (pc := 23) (dK D_Mo_isAhead_0 15 rfl) ?_
    refine bnE h (fun p11 e_p11 h => ?_)
    refine vg_cV (pc := 24) (As := [V a2, V 4]) (rest := [V p10]) (mc' := 0) (ms' := 0) (dK D_Mo_isAhead_0 16 rfl) K_Mo_82 (fitK rfl) (ltK rfl) hc0 rfl (leK rfl) (leK rfl) (leK rfl) (tf_Mo_ofAd hc0 ha2 (inRk rfl) e_p11) (kcI (fun h_p11 => ?_))
    refine vg_icmp_le (pc := 27) (t := 34) (dK D_Mo_isAhead_0 17 rfl) rfl h_p10 h_p11 (fun hc12 => ?_) (fun hc12 => ?_)
    · replace h := ifP h hc12
      refine vg_iconst (pc := 34) (dK D_Mo_isAhead_0 20 rfl) ?_
      exact vg_iretB (pc := 35) (b := false) (dK D_Mo_isAhead_0 21 rfl) rfl (leK rfl) (leK rfl) (fun _ => rfl) (by obtain rfl := Option.some.inj h; exact ⟨rfl, rfl⟩)
    · replace h := ifN h hc12
      refine vg_iconst (pc := 30) (dK D_Mo_isAhead_0 18 rfl) ?_
      refine g_goto (pc := 31) (tgt := 35) (dK D_Mo_isAhead_0 19 rfl) rfl ?_
      exact vg_iretB (pc := 35) (b := true) (dK D_Mo_isAhead_0 21 rfl) rfl (leK rfl) (leK rfl) (fun _ => rfl) (by obtain rfl := Option.some.inj h; exact ⟨rfl, rfl⟩)
def lb_Mo_firstOf_11 (c0 : Nat) (a1 : Int) (S : St) (go : Int → Option ((Int) ⊕ (Unit))) (a3 : Int) : Option ((Int) ⊕ (Unit)) := bnO (fn_Mo_pageMany c0 S) fun p1 => if p1 < a3 then (some (.inr ())) else (bnO (fn_Mo_reasonOf c0 a1 a3 S) fun p2 => if p2 = 0 then (some (.inl a3)) else (nm (wr (a3 + 1)) fun v3 => go v3))
def lo_Mo_firstOf_11 (c0 : Nat) (a1 : Int) (S : St) : Nat → Int → Option ((Int) ⊕ (Unit)) := lp fun go p => lb_Mo_firstOf_11 c0 a1 S go p
theorem tl_Mo_firstOf_11 {E : EV} {X : XT} {c0 : Nat} (hc0 : HC X 11 c0) {a1 : Int} (ha1 : inR a1) {S : St} {K : RK → PS → Prop} {q : (Int) ⊕ (Unit)} (hx : ∀ p, q = .inr p → Go E M_Mo_firstOf 0 0 36 [] [] (WX X S) 0 0 K) (hr : ∀ p, q = .inl p → inR p → K (.inl (some (V p))) (WX X S)) : ∀ n a, lo_Mo_firstOf_11 c0 a1 S n a = some q → inR a → Go E M_Mo_firstOf 0 0 11 [(0, .ref c0), (1, V a1), (3, V a)] [] (WX X S) 0 0 K := by
  refine lp_ind (P := fun a : Int => inR a → Go E M_Mo_firstOf 0 0 11 [(0, .ref c0), (1, V a1), (3, V a)] [] (WX X S) 0 0 K) (fun go ih a3 h => ?_)
  intro ha3
  show Go E M_Mo_firstOf 0 0 11 [(0, .ref c0), (1, V a1), (3, V a3)] [] (WX X S) 0 0 K
  replace h : lb_Mo_firstOf_11 c0 a1 S go a3 = some q := h
  unfold lb_Mo_firstOf_11 at h
  refine g_iloadn (pc := 11) (i0 := 3) (j := 2) (dK D_Mo_firstOf 7 rfl) rfl rfl ?_
  refine g_aloadn (pc := 12) (i0 := 0) (j := 0) (dK D_Mo_firstOf 8 rfl) rfl rfl ?_
  refine bnE h (fun p1 e_p1 h => ?_)
  refine vg_cV (pc := 13) (As := []) (rest := [V a3]) (mc' := 0) (ms' := 0) (dK D_Mo_firstOf 9 rfl) K_Mo_63 (fitK rfl) (ltK rfl) hc0 rfl (leK rfl) (leK rfl) (leK rfl) (tf_Mo_pageMany hc0 e_p1) (kcI (fun h_p1 => ?_))
  refine vg_icmp_gt (pc := 16) (t := 36) (dK D_Mo_firstOf 10 rfl) rfl ha3 h_p1 (fun hc5 => ?_) (fun hc5 => ?_)
  · replace h := ifP h hc5
    refine gL_weak (ls' := []) sbn ?_
    exact hx _ (Option.some.inj h).symm 
  · replace h := ifN h hc5
    refine g_aloadn (pc := 19) (i0 := 0) (j := 0) (dK D_Mo_firstOf 11 rfl) rfl rfl ?_
    refine g_iloadn (pc := 20) (i0 := 1) (j := 1) (dK D_Mo_firstOf 12 rfl) rfl rfl ?_
    refine g_iloadn (pc := 21) (i0 := 3) (j := 2) (dK D_Mo_firstOf 13 rfl) rfl rfl ?_
    refine bnE h (fun p2 e_p2 h => ?_)
    refine vg_cV (pc := 22) (As := [V a1, V a3]) (rest := []) (mc' := 0) (ms' := 0) (dK D_Mo_firstOf 14 rfl) K_Mo_129 (fitK rfl) (ltK rfl) hc0 rfl (leK rfl) (leK rfl) (leK rfl) (tf_Mo_reasonOf hc0 ha1 ha3 e_p2) (kcI (fun h_p2 => ?_))
    refine vg_if_ne (pc := 25) (t := 30) (dK D_Mo_firstOf 15 rfl) rfl h_p2 (fun hc4 => ?_) (fun hc4 => ?_)
    · replace h := ifN h hc4
      refine nmE h (fun v3 e_v3 h => ?_)
      refine vg_iinc (pc := 30) (j := 2) (a := a3) (z := 1) (ls2 := [(3, V v3), (0, .ref c0), (1, V a1)]) (dK D_Mo_firstOf 18 rfl) rfl e_v3 (ltK rfl) rfl ?_
      refine g_goto (pc := 33) (tgt := 11) (dK D_Mo_firstOf 19 rfl) rfl ?_
      refine gL_weak (ls' := [(0, .ref c0), (1, V a1), (3, V v3)]) (sbc 1 rfl (sbc 2 rfl (sbc 0 rfl sbn))) ?_
      replace h := ih _ h
      exact h (Vn_in e_v3)
    · replace h := ifP h hc4
      refine g_iloadn (pc := 28) (i0 := 3) (j := 2) (dK D_Mo_firstOf 16 rfl) rfl rfl ?_
      exact vg_iretI (pc := 29) (r := a3) (dK D_Mo_firstOf 17 rfl) rfl (leK rfl) (leK rfl) (fun _ => rfl) (hr _ (Option.some.inj h).symm ha3)
def fn_Mo_firstOf (c0 : Nat) (a1 : Int) (a2 : Int) (S : St) : Option (Int) := if 1 ≤ a2 then (bnS (lo_Mo_firstOf_11 c0 a1 S FU a2) (fun p7 => some p7) fun p6 => some (-1)) else (bnS (lo_Mo_firstOf_11 c0 a1 S FU 1) (fun p9 => some p9) fun p8 => some (-1))
theorem tf_Mo_firstOf {E : EV} {X : XT} {c0 : Nat} (hc0 : HC X 11 c0) {a1 : Int} (ha1 : inR a1) {a2 : Int} (ha2 : inR a2) {S : St} {q : Int} (h : fn_Mo_firstOf c0 a1 a2 S = some q) : Ev E M_Mo_firstOf [.ref c0, V a1, V a2] (WX X S) 0 0 (KI X q S) := by
  refine Ev.of pn_Mo rfl (leK rfl) ?_
  show Go E M_Mo_firstOf 0 0 0 [(0, .ref c0), (1, V a1), (2, V a2)] [] (WX X S) 0 0 (KI X q S)
  unfold fn_Mo_firstOf at h
  refine g_iloadn (pc := 0) (i0 := 2) (j := 2) (dK D_Mo_firstOf 0 rfl) rfl rfl ?_
  refine vg_iconst (pc := 1) (dK D_Mo_firstOf 1 rfl) ?_
  refine vg_icmp_ge (pc := 2) (t := 9) (dK D_Mo_firstOf 2 rfl) rfl ha2 (inRk rfl) (fun hc10 => ?_) (fun hc10 => ?_)
  · replace h := ifP h hc10
    refine g_iloadn (pc := 9) (i0 := 2) (j := 2) (dK D_Mo_firstOf 5 rfl) rfl rfl ?_
    refine g_istoren (pc := 10) (i0 := 3) (ls2 := [(3, V a2), (0, .ref c0), (1, V a1), (2, V a2)]) (dK D_Mo_firstOf 6 rfl) rfl (ltK rfl) rfl ?_
    refine bnSE h (fun p7 e_p7 h => ?_) (fun p6 e_p6 h => ?_)
    · refine gL_weak (ls' := [(0, .ref c0), (1, V a1), (3, V a2)]) (sbc 1 rfl (sbc 2 rfl (sbc 0 rfl sbn))) ?_
      refine tl_Mo_firstOf_11 hc0 ha1 (fun _ e => slr e) (fun p e hr_p7 => ?_) FU a2 e_p7 ha2
      have e := Sum.inl.inj e
      subst e
      exact (by obtain rfl := Option.some.inj h; exact ⟨rfl, hr_p7, rfl⟩)
    · refine gL_weak (ls' := [(0, .ref c0), (1, V a1), (3, V a2)]) (sbc 1 rfl (sbc 2 rfl (sbc 0 rfl sbn))) ?_
      refine tl_Mo_firstOf_11 hc0 ha1 (fun p e => ?_) (fun _ e => srl e) FU a2 e_p6 ha2
      have e := Sum.inr.inj e
      subst e
      refine vg_iconst (pc := 36) (dK D_Mo_firstOf 20 rfl) ?_
      exact vg_iretI (pc := 37) (r := (-1)) (dK D_Mo_firstOf 21 rfl) rfl (leK rfl) (leK rfl) (fun _ => rfl) (by obtain rfl := Option.some.inj h; exact ⟨rfl, (inRk rfl), rfl⟩)
  · replace h := ifN h hc10
    refine vg_iconst (pc := 5) (dK D_Mo_firstOf 3 rfl) ?_
    refine g_goto (pc := 6) (tgt := 10) (dK D_Mo_firstOf 4 rfl) rfl ?_
    refine g_istoren (pc := 10) (i0 := 3) (ls2 := [(3, V 1), (0, .ref c0), (1, V a1), (2, V a2)]) (dK D_Mo_firstOf 6 rfl) rfl (ltK rfl) rfl ?_
    refine bnSE h (fun p9 e_p9 h => ?_) (fun p8 e_p8 h => ?_)
    · refine gL_weak (ls' := [(0, .ref c0), (1, V a1), (3, V 1)]) (sbc 1 rfl (sbc 2 rfl (sbc 0 rfl sbn))) ?_
      refine tl_Mo_firstOf_11 hc0 ha1 (fun _ e => slr e) (fun p e hr_p9 => ?_) FU 1 e_p9 (inRk rfl)
      have e := Sum.inl.inj e
      subst e
      exact (by obtain rfl := Option.some.inj h; exact ⟨rfl, hr_p9, rfl⟩)
    · refine gL_weak (ls' := [(0, .ref c0), (1, V a1), (3, V 1)]) (sbc 1 rfl (sbc 2 rfl (sbc 0 rfl sbn))) ?_
      refine tl_Mo_firstOf_11 hc0 ha1 (fun p e => ?_) (fun _ e => srl e) FU 1 e_p8 (inRk rfl)
      have e := Sum.inr.inj e
      subst e
      refine vg_iconst (pc := 36) (dK D_Mo_firstOf 20 rfl) ?_
      exact vg_iretI (pc := 37) (r := (-1)) (dK D_Mo_firstOf 21 rfl) rfl (leK rfl) (leK rfl) (fun _ => rfl) (by obtain rfl := Option.some.inj h; exact ⟨rfl, (inRk rfl), rfl⟩)
def lb_Mo_placeAds_11 (c0 : Nat) (go : Int × St → Option (St)) (a1 : Int) (S : St) : Option (St) := if 40 ≤ a1 then (some S) else (if (g S (tgt c0 0) 1) ≤ a1 then (if 0 ≤ a1 ∧ a1 < 40 then (nm (u S (tgt c0 5) a1.toNat (i_nz 1)) fun S4 => nm (wr (a1 + 1)) fun v5 => go (v5, S4)) else none) else (bnO (fn_Mo_ofAd c0 a1 6 S) fun p6 => if p6 ≤ 0 then (if 0 ≤ a1 ∧ a1 < 40 then (nm (u S (tgt c0 5) a1.toNat (i_nz 0)) fun S8 => nm (wr (a1 + 1)) fun v9 => go (v9, S8)) else none) else (if 0 ≤ a1 ∧ a1 < 40 then (nm (u S (tgt c0 5) a1.toNat (i_nz 1)) fun S11 => nm (wr (a1 + 1)) fun v12 => go (v12, S11)) else none)))
def lo_Mo_placeAds_11 (c0 : Nat) : Nat → Int × St → Option (St) := lp fun go p => lb_Mo_placeAds_11 c0 go p.1 p.2
theorem tl_Mo_placeAds_11 {E : EV} {X : XT} {c0 : Nat} (hc0 : HC X 11 c0) {K : RK → PS → Prop} {q : St} (hx : Go E M_Mo_placeAds 0 0 54 [(0, .ref c0)] [] (WX X q) 0 0 K) : ∀ n a, lo_Mo_placeAds_11 c0 n a = some q → inR a.1 → Go E M_Mo_placeAds 0 0 11 [(0, .ref c0), (1, V a.1)] [] (WX X a.2) 0 0 K := by
  refine lp_ind (P := fun a : Int × St => inR a.1 → Go E M_Mo_placeAds 0 0 11 [(0, .ref c0), (1, V a.1)] [] (WX X a.2) 0 0 K) (fun go ih a h => ?_)
  obtain ⟨a1, S⟩ := a
  intro ha1
  show Go E M_Mo_placeAds 0 0 11 [(0, .ref c0), (1, V a1)] [] (WX X S) 0 0 K
  replace h : lb_Mo_placeAds_11 c0 go a1 S = some q := h
  unfold lb_Mo_placeAds_11 at h
  refine g_iloadn (pc := 11) (i0 := 1) (j := 1) (dK D_Mo_placeAds_0 7 rfl) rfl rfl ?_
  refine vg_bipush (pc := 12) (dK D_Mo_placeAds_0 8 rfl) rfl ?_
  refine vg_icmp_ge (pc := 14) (t := 54) (dK D_Mo_placeAds_0 9 rfl) rfl ha1 (inRk rfl) (fun hc15 => ?_) (fun hc15 => ?_)
  · replace h := ifP h hc15
    obtain rfl := Option.some.inj h
    refine gL_weak (ls' := [(0, .ref c0)]) (sbc 0 rfl sbn) ?_
    exact hx 
  · replace h := ifN h hc15
    refine g_aloadn (pc := 17) (i0 := 0) (j := 0) (dK D_Mo_placeAds_0 10 rfl) rfl rfl ?_
    refine vg_getA (pc := 18) (ci := 11) (f := 5) (dK D_Mo_placeAds_0 11 rfl) q_1447 hc0 (ltK rfl) (ltK rfl) rfl ?_
    refine g_iloadn (pc := 21) (i0 := 1) (j := 1) (dK D_Mo_placeAds_0 12 rfl) rfl rfl ?_
    refine g_iloadn (pc := 22) (i0 := 1) (j := 1) (dK D_Mo_placeAds_0 13 rfl) rfl rfl ?_
    refine g_aloadn (pc := 23) (i0 := 0) (j := 0) (dK D_Mo_placeAds_0 14 rfl) rfl rfl ?_
    refine vg_getA (pc := 24) (ci := 11) (f := 0) (dK D_Mo_placeAds_0 15 rfl) q_1442 hc0 (ltK rfl) (ltK rfl) rfl ?_
    refine vg_iconst (pc := 27) (dK D_Mo_placeAds_0 16 rfl) ?_
    refine vg_iaload (pc := 28) (j := 1) (dK D_Mo_placeAds_0 17 rfl) (hw_11_0 hc0) rfl ⟨by decide, by decide⟩ rfl ?_
    refine vg_icmp_ge (pc := 29) (t := 42) (dK D_Mo_placeAds_0 18 rfl) rfl ha1 (g_in _ _ _) (fun hc14 => ?_) (fun hc14 => ?_)
    · replace h := ifP h hc14
      refine vg_iconst (pc := 42) (dK D_Mo_placeAds_0 24 rfl) ?_
      refine g_goto (pc := 43) (tgt := 47) (dK D_Mo_placeAds_0 25 rfl) rfl ?_
      refine gdE h (fun hi3 h => ?_)
      refine nmE h (fun S4 e_S4 h => ?_)
      refine vg_zastore (pc := 47) (z := 1) (dK D_Mo_placeAds_0 27 rfl) (hw_11_5 hc0) rfl hi3 rfl e_S4 ?_
      refine nmE h (fun v5 e_v5 h => ?_)
      refine vg_iinc (pc := 48) (j := 1) (a := a1) (z := 1) (ls2 := [(1, V v5), (0, .ref c0)]) (dK D_Mo_placeAds_0 28 rfl) rfl e_v5 (ltK rfl) rfl ?_
      refine g_goto (pc := 51) (tgt := 11) (dK D_Mo_placeAds_0 29 rfl) rfl ?_
      refine gL_weak (ls' := [(0, .ref c0), (1, V v5)]) (sbc 1 rfl (sbc 0 rfl sbn)) ?_
      replace h := ih _ h
      exact h (Vn_in e_v5)
    · replace h := ifN h hc14
      refine g_aloadn (pc := 32) (i0 := 0) (j := 0) (dK D_Mo_placeAds_0 19 rfl) rfl rfl ?_
      refine g_iloadn (pc := 33) (i0 := 1) (j := 1) (dK D_Mo_placeAds_0 20 rfl) rfl rfl ?_
      refine vg_bipush (pc := 34) (dK D_Mo_placeAds_0 21 rfl) rfl ?_
      refine bnE h (fun p6 e_p6 h => ?_)
      refine vg_cV (pc := 36) (As := [V a1, V 6]) (rest := [V a1, .ref (tgt c0 5)]) (mc' := 0) (ms' := 0) (dK D_Mo_placeAds_0 22 rfl) K_Mo_82 (fitK rfl) (ltK rfl) hc0 rfl (leK rfl) (leK rfl) (leK rfl) (tf_Mo_ofAd hc0 ha1 (inRk rfl) e_p6) (kcI (fun h_p6 => ?_))
      refine vg_if_le (pc := 39) (t := 46) (dK D_Mo_placeAds_0 23 rfl) rfl h_p6 (fun hc13 => ?_) (fun hc13 => ?_)
      · replace h := ifP h hc13
        refine vg_iconst (pc := 46) (dK D_Mo_placeAds_0 26 rfl) ?_
        refine gdE h (fun hi7 h => ?_)
        refine nmE h (fun S8 e_S8 h => ?_)
        refine vg_zastore (pc := 47) (z := 0) (dK D_Mo_placeAds_0 27 rfl) (hw_11_5 hc0) rfl hi7 rfl e_S8 ?_
        refine nmE h (fun v9 e_v9 h => ?_)
        refine vg_iinc (pc := 48) (j := 1) (a := a1) (z := 1) (ls2 := [(1, V v9), (0, .ref c0)]) (dK D_Mo_placeAds_0 28 rfl) rfl e_v9 (ltK rfl) rfl ?_
        refine g_goto (pc := 51) (tgt := 11) (dK D_Mo_placeAds_0 29 rfl) rfl ?_
        refine gL_weak (ls' := [(0, .ref c0), (1, V v9)]) (sbc 1 rfl (sbc 0 rfl sbn)) ?_
        replace h := ih _ h
        exact h (Vn_in e_v9)
      · replace h := ifN h hc13
        refine vg_iconst (pc := 42) (dK D_Mo_placeAds_0 24 rfl) ?_
        refine g_goto (pc := 43) (tgt := 47) (dK D_Mo_placeAds_0 25 rfl) rfl ?_
        refine gdE h (fun hi10 h => ?_)
        refine nmE h (fun S11 e_S11 h => ?_)
        refine vg_zastore (pc := 47) (z := 1) (dK D_Mo_placeAds_0 27 rfl) (hw_11_5 hc0) rfl hi10 rfl e_S11 ?_
        refine nmE h (fun v12 e_v12 h => ?_)
        refine vg_iinc (pc := 48) (j := 1) (a := a1) (z := 1) (ls2 := [(1, V v12), (0, .ref c0)]) (dK D_Mo_placeAds_0 28 rfl) rfl e_v12 (ltK rfl) rfl ?_
        refine g_goto (pc := 51) (tgt := 11) (dK D_Mo_placeAds_0 29 rfl) rfl ?_
        refine gL_weak (ls' := [(0, .ref c0), (1, V v12)]) (sbc 1 rfl (sbc 0 rfl sbn)) ?_
        replace h := ih _ h
        exact h (Vn_in e_v12)
def lb_Mo_placeAds_60 (c0 : Nat) (a1 : Int) (S : St) (go : Int × Int → Option (Int)) (a2 : Int) (a3 : Int) : Option (Int) := if 40 ≤ a3 then (some a2) else (if 0 ≤ a3 ∧ a3 < 40 then (if (g S (tgt c0 5) a3.toNat) = 0 then (if a2 = (-1) then (nm (wr (a3 + 1)) fun v19 => go (a3, v19)) else (bnO (fn_Mo_isAhead c0 a3 a2 S) fun p20 => if p20 = true then (nm (wr (a3 + 1)) fun v23 => go (a3, v23)) else (nm (wr (a3 + 1)) fun v22 => go (a2, v22)))) else (nm (wr (a3 + 1)) fun v18 => go (a2, v18))) else none)
def lo_Mo_placeAds_60 (c0 : Nat) (a1 : Int) (S : St) : Nat → Int × Int → Option (Int) := lp fun go p => lb_Mo_placeAds_60 c0 a1 S go p.1 p.2
theorem tl_Mo_placeAds_60 {E : EV} {X : XT} {c0 : Nat} (hc0 : HC X 11 c0) {a1 : Int} (ha1 : inR a1) {S : St} {K : RK → PS → Prop} {q : Int} (hx : inR q → Go E M_Mo_placeAds 0 0 97 [(0, .ref c0), (1, V a1), (2, V q)] [] (WX X S) 0 0 K) : ∀ n a, lo_Mo_placeAds_60 c0 a1 S n a = some q → inR a.1 → inR a.2 → Go E M_Mo_placeAds 0 0 60 [(0, .ref c0), (1, V a1), (2, V a.1), (3, V a.2)] [] (WX X S) 0 0 K := by
  refine lp_ind (P := fun a : Int × Int => inR a.1 → inR a.2 → Go E M_Mo_placeAds 0 0 60 [(0, .ref c0), (1, V a1), (2, V a.1), (3, V a.2)] [] (WX X S) 0 0 K) (fun go ih a h => ?_)
  obtain ⟨a2, a3⟩ := a
  intro ha2 ha3
  show Go E M_Mo_placeAds 0 0 60 [(0, .ref c0), (1, V a1), (2, V a2), (3, V a3)] [] (WX X S) 0 0 K
  replace h : lb_Mo_placeAds_60 c0 a1 S go a2 a3 = some q := h
  unfold lb_Mo_placeAds_60 at h
  refine g_iloadn (pc := 60) (i0 := 3) (j := 3) (dK D_Mo_placeAds_0 36 rfl) rfl rfl ?_
  refine vg_bipush (pc := 61) (dK D_Mo_placeAds_0 37 rfl) rfl ?_
  refine vg_icmp_ge (pc := 63) (t := 97) (dK D_Mo_placeAds_0 38 rfl) rfl ha3 (inRk rfl) (fun hc26 => ?_) (fun hc26 => ?_)
  · replace h := ifP h hc26
    obtain rfl := Option.some.inj h
    refine gL_weak (ls' := [(0, .ref c0), (1, V a1), (2, V a2)]) (sbc 0 rfl (sbc 1 rfl (sbc 2 rfl sbn))) ?_
    exact hx ha2
  · replace h := ifN h hc26
    refine g_aloadn (pc := 66) (i0 := 0) (j := 0) (dK D_Mo_placeAds_0 39 rfl) rfl rfl ?_
    refine vg_getA (pc := 67) (ci := 11) (f := 5) (dK D_Mo_placeAds_0 40 rfl) q_1447 hc0 (ltK rfl) (ltK rfl) rfl ?_
    refine g_iloadn (pc := 70) (i0 := 3) (j := 3) (dK D_Mo_placeAds_0 41 rfl) rfl rfl ?_
    refine gdE h (fun hi17 h => ?_)
    refine vg_zaload (pc := 71) (j := a3.toNat) (dK D_Mo_placeAds_0 42 rfl) (hw_11_5 hc0) rfl hi17 rfl ?_
    refine vg_if_ne (pc := 72) (t := 91) (dK D_Mo_placeAds_0 43 rfl) rfl (g_in _ _ _) (fun hc25 => ?_) (fun hc25 => ?_)
    · replace h := ifN h hc25
      refine nmE h (fun v18 e_v18 h => ?_)
      refine vg_iinc (pc := 91) (j := 3) (a := a3) (z := 1) (ls2 := [(3, V v18), (0, .ref c0), (1, V a1), (2, V a2)]) (dK D_Mo_placeAds_1 4 rfl) rfl e_v18 (ltK rfl) rfl ?_
      refine g_goto (pc := 94) (tgt := 60) (dK D_Mo_placeAds_1 5 rfl) rfl ?_
      refine gL_weak (ls' := [(0, .ref c0), (1, V a1), (2, V a2), (3, V v18)]) (sbc 1 rfl (sbc 2 rfl (sbc 3 rfl (sbc 0 rfl sbn)))) ?_
      replace h := ih _ h
      exact h ha2 (Vn_in e_v18)
    · replace h := ifP h hc25
      refine g_iloadn (pc := 75) (i0 := 2) (j := 2) (dK D_Mo_placeAds_0 44 rfl) rfl rfl ?_
      refine vg_iconst (pc := 76) (dK D_Mo_placeAds_0 45 rfl) ?_
      refine vg_icmp_eq (pc := 77) (t := 89) (dK D_Mo_placeAds_0 46 rfl) rfl ha2 (inRk rfl) (fun hc24 => ?_) (fun hc24 => ?_)
      · replace h := ifP h hc24
        refine g_iloadn (pc := 89) (i0 := 3) (j := 3) (dK D_Mo_placeAds_1 2 rfl) rfl rfl ?_
        refine g_istoren (pc := 90) (i0 := 2) (ls2 := [(2, V a3), (0, .ref c0), (1, V a1), (3, V a3)]) (dK D_Mo_placeAds_1 3 rfl) rfl (ltK rfl) rfl ?_
        refine nmE h (fun v19 e_v19 h => ?_)
        refine vg_iinc (pc := 91) (j := 3) (a := a3) (z := 1) (ls2 := [(3, V v19), (2, V a3), (0, .ref c0), (1, V a1)]) (dK D_Mo_placeAds_1 4 rfl) rfl e_v19 (ltK rfl) rfl ?_
        refine g_goto (pc := 94) (tgt := 60) (dK D_Mo_placeAds_1 5 rfl) rfl ?_
        refine gL_weak (ls' := [(0, .ref c0), (1, V a1), (2, V a3), (3, V v19)]) (sbc 2 rfl (sbc 3 rfl (sbc 1 rfl (sbc 0 rfl sbn)))) ?_
        replace h := ih _ h
        exact h ha3 (Vn_in e_v19)
      · replace h := ifN h hc24
        refine g_aloadn (pc := 80) (i0 := 0) (j := 0) (dK D_Mo_placeAds_0 47 rfl) rfl rfl ?_
        refine g_iloadn (pc := 81) (i0 := 3) (j := 3) (dK D_Mo_placeAds_0 48 rfl) rfl rfl ?_
        refine g_iloadn (pc := 82) (i0 := 2) (j := 2) (dK D_Mo_placeAds_0 49 rfl) rfl rfl ?_
        refine bnE h (fun p20 e_p20 h => ?_)
        refine vg_cV (pc := 83) (As := [V a3, V a2]) (rest := []) (mc' := 0) (ms' := 0) (dK D_Mo_placeAds_1 0 rfl) K_Mo_249 (fitK rfl) (ltK rfl) hc0 rfl (leK rfl) (leK rfl) (leK rfl) (tf_Mo_isAhead hc0 ha3 ha2 e_p20) (kcB ?_)
        refine vg_ifB_eq (pc := 86) (b := p20) (t := 91) (dK D_Mo_placeAds_1 1 rfl) rfl (fun hc21 => ?_) (fun hc21 => ?_)
        · replace h := ifP h hc21
          refine g_iloadn (pc := 89) (i0 := 3) (j := 3) (dK D_Mo_placeAds_1 2 rfl) rfl rfl ?_
          refine g_istoren (pc := 90) (i0 := 2) (ls2 := [(2, V a3), (0, .ref c0), (1, V a1), (3, V a3)]) (dK D_Mo_placeAds_1 3 rfl) rfl (ltK rfl) rfl ?_
          refine nmE h (fun v23 e_v23 h => ?_)
          refine vg_iinc (pc := 91) (j := 3) (a := a3) (z := 1) (ls2 := [(3, V v23), (2, V a3), (0, .ref c0), (1, V a1)]) (dK D_Mo_placeAds_1 4 rfl) rfl e_v23 (ltK rfl) rfl ?_
          refine g_goto (pc := 94) (tgt := 60) (dK D_Mo_placeAds_1 5 rfl) rfl ?_
          refine gL_weak (ls' := [(0, .ref c0), (1, V a1), (2, V a3), (3, V v23)]) (sbc 2 rfl (sbc 3 rfl (sbc 1 rfl (sbc 0 rfl sbn)))) ?_
          replace h := ih _ h
          exact h ha3 (Vn_in e_v23)
        · replace h := ifN h hc21
          refine nmE h (fun v22 e_v22 h => ?_)
          refine vg_iinc (pc := 91) (j := 3) (a := a3) (z := 1) (ls2 := [(3, V v22), (0, .ref c0), (1, V a1), (2, V a2)]) (dK D_Mo_placeAds_1 4 rfl) rfl e_v22 (ltK rfl) rfl ?_
          refine g_goto (pc := 94) (tgt := 60) (dK D_Mo_placeAds_1 5 rfl) rfl ?_
          refine gL_weak (ls' := [(0, .ref c0), (1, V a1), (2, V a2), (3, V v22)]) (sbc 1 rfl (sbc 2 rfl (sbc 3 rfl (sbc 0 rfl sbn)))) ?_
          replace h := ih _ h
          exact h ha2 (Vn_in e_v22)
def lb_Mo_placeAds_56 (c0 : Nat) (go : Int × St → Option (Int × St)) (a1 : Int) (S : St) : Option (Int × St) := bnO (lo_Mo_placeAds_60 c0 a1 S FU ((-1), 0)) fun p27 => if p27 = (-1) then (some (a1, S)) else (if 0 ≤ p27 ∧ p27 < 40 then (nm (u S (tgt c0 5) p27.toNat (i_nz 1)) fun S29 => bnO (fn_Mo_firstOf c0 p27 1 S29) fun p30 => if p30 = (-1) then (go (a1, S29)) else (bnO (fn_Mo_setOfAd c0 p27 6 p30 S29) fun p31 => nm (wr (a1 + 1)) fun v32 => go (v32, p31))) else none)
def lo_Mo_placeAds_56 (c0 : Nat) : Nat → Int × St → Option (Int × St) := lp fun go p => lb_Mo_placeAds_56 c0 go p.1 p.2
theorem tl_Mo_placeAds_56 {E : EV} {X : XT} {c0 : Nat} (hc0 : HC X 11 c0) {K : RK → PS → Prop} {q : Int × St} (hx : inR q.1 → Go E M_Mo_placeAds 0 0 102 [(1, V q.1)] [] (WX X q.2) 0 0 K) : ∀ n a, lo_Mo_placeAds_56 c0 n a = some q → inR a.1 → Go E M_Mo_placeAds 0 0 56 [(0, .ref c0), (1, V a.1)] [] (WX X a.2) 0 0 K := by
  refine lp_ind (P := fun a : Int × St => inR a.1 → Go E M_Mo_placeAds 0 0 56 [(0, .ref c0), (1, V a.1)] [] (WX X a.2) 0 0 K) (fun go ih a h => ?_)
  obtain ⟨a1, S⟩ := a
  intro ha1
  show Go E M_Mo_placeAds 0 0 56 [(0, .ref c0), (1, V a1)] [] (WX X S) 0 0 K
  replace h : lb_Mo_placeAds_56 c0 go a1 S = some q := h
  unfold lb_Mo_placeAds_56 at h
  refine vg_iconst (pc := 56) (dK D_Mo_placeAds_0 32 rfl) ?_
  refine g_istoren (pc := 57) (i0 := 2) (ls2 := [(2, V (-1)), (0, .ref c0), (1, V a1)]) (dK D_Mo_placeAds_0 33 rfl) rfl (ltK rfl) rfl ?_
  refine vg_iconst (pc := 58) (dK D_Mo_placeAds_0 34 rfl) ?_
  refine g_istoren (pc := 59) (i0 := 3) (ls2 := [(3, V 0), (2, V (-1)), (0, .ref c0), (1, V a1)]) (dK D_Mo_placeAds_0 35 rfl) rfl (ltK rfl) rfl ?_
  refine bnE h (fun p27 e_p27 h => ?_)
  refine gL_weak (ls' := [(0, .ref c0), (1, V a1), (2, V (-1)), (3, V 0)]) (sbc 2 rfl (sbc 3 rfl (sbc 1 rfl (sbc 0 rfl sbn)))) ?_
  refine tl_Mo_placeAds_60 hc0 ha1 (fun hx2_p27 => ?_) FU ((-1), 0) e_p27 (inRk rfl) (inRk rfl)
  refine g_iloadn (pc := 97) (i0 := 2) (j := 2) (dK D_Mo_placeAds_1 6 rfl) rfl rfl ?_
  refine vg_iconst (pc := 98) (dK D_Mo_placeAds_1 7 rfl) ?_
  refine vg_icmp_ne (pc := 99) (t := 104) (dK D_Mo_placeAds_1 8 rfl) rfl hx2_p27 (inRk rfl) (fun hc34 => ?_) (fun hc34 => ?_)
  · replace h := ifN h hc34
    refine g_aloadn (pc := 104) (i0 := 0) (j := 0) (dK D_Mo_placeAds_1 11 rfl) rfl rfl ?_
    refine vg_getA (pc := 105) (ci := 11) (f := 5) (dK D_Mo_placeAds_1 12 rfl) q_1447 hc0 (ltK rfl) (ltK rfl) rfl ?_
    refine g_iloadn (pc := 108) (i0 := 2) (j := 2) (dK D_Mo_placeAds_1 13 rfl) rfl rfl ?_
    refine vg_iconst (pc := 109) (dK D_Mo_placeAds_1 14 rfl) ?_
    refine gdE h (fun hi28 h => ?_)
    refine nmE h (fun S29 e_S29 h => ?_)
    refine vg_zastore (pc := 110) (z := 1) (dK D_Mo_placeAds_1 15 rfl) (hw_11_5 hc0) rfl hi28 rfl e_S29 ?_
    refine g_aloadn (pc := 111) (i0 := 0) (j := 0) (dK D_Mo_placeAds_1 16 rfl) rfl rfl ?_
    refine g_iloadn (pc := 112) (i0 := 2) (j := 2) (dK D_Mo_placeAds_1 17 rfl) rfl rfl ?_
    refine vg_iconst (pc := 113) (dK D_Mo_placeAds_1 18 rfl) ?_
    refine bnE h (fun p30 e_p30 h => ?_)
    refine vg_cV (pc := 114) (As := [V p27, V 1]) (rest := []) (mc' := 0) (ms' := 0) (dK D_Mo_placeAds_1 19 rfl) K_Mo_252 (fitK rfl) (ltK rfl) hc0 rfl (leK rfl) (leK rfl) (leK rfl) (tf_Mo_firstOf hc0 hx2_p27 (inRk rfl) e_p30) (kcI (fun h_p30 => ?_))
    refine g_istoren (pc := 117) (i0 := 3) (ls2 := [(3, V p30), (0, .ref c0), (1, V a1), (2, V p27)]) (dK D_Mo_placeAds_1 20 rfl) rfl (ltK rfl) rfl ?_
    refine g_iloadn (pc := 118) (i0 := 3) (j := 0) (dK D_Mo_placeAds_1 21 rfl) rfl rfl ?_
    refine vg_iconst (pc := 119) (dK D_Mo_placeAds_1 22 rfl) ?_
    refine vg_icmp_ne (pc := 120) (t := 126) (dK D_Mo_placeAds_1 23 rfl) rfl h_p30 (inRk rfl) (fun hc33 => ?_) (fun hc33 => ?_)
    · replace h := ifN h hc33
      refine g_aloadn (pc := 126) (i0 := 0) (j := 1) (dK D_Mo_placeAds_1 25 rfl) rfl rfl ?_
      refine g_iloadn (pc := 127) (i0 := 2) (j := 3) (dK D_Mo_placeAds_1 26 rfl) rfl rfl ?_
      refine vg_bipush (pc := 128) (dK D_Mo_placeAds_1 27 rfl) rfl ?_
      refine g_iloadn (pc := 130) (i0 := 3) (j := 0) (dK D_Mo_placeAds_1 28 rfl) rfl rfl ?_
      refine bnE h (fun p31 e_p31 h => ?_)
      refine vg_cV (pc := 131) (As := [V p27, V 6, V p30]) (rest := []) (mc' := 0) (ms' := 0) (dK D_Mo_placeAds_1 29 rfl) K_Mo_162 (fitK rfl) (ltK rfl) hc0 rfl (leK rfl) (leK rfl) (leK rfl) (tf_Mo_setOfAd hc0 hx2_p27 (inRk rfl) h_p30 e_p31) (kcU ?_)
      refine nmE h (fun v32 e_v32 h => ?_)
      refine vg_iinc (pc := 134) (j := 2) (a := a1) (z := 1) (ls2 := [(1, V v32), (3, V p30), (0, .ref c0), (2, V p27)]) (dK D_Mo_placeAds_1 30 rfl) rfl e_v32 (ltK rfl) rfl ?_
      refine g_goto (pc := 137) (tgt := 56) (dK D_Mo_placeAds_1 31 rfl) rfl ?_
      refine gL_weak (ls' := [(0, .ref c0), (1, V v32)]) (sbc 2 rfl (sbc 0 rfl sbn)) ?_
      replace h := ih _ h
      exact h (Vn_in e_v32)
    · replace h := ifP h hc33
      refine g_goto (pc := 123) (tgt := 56) (dK D_Mo_placeAds_1 24 rfl) rfl ?_
      refine gL_weak (ls' := [(0, .ref c0), (1, V a1)]) (sbc 1 rfl (sbc 2 rfl sbn)) ?_
      replace h := ih _ h
      exact h ha1
  · replace h := ifP h hc34
    obtain rfl := Option.some.inj h
    refine gL_weak (ls' := [(1, V a1)]) (sbc 1 rfl sbn) ?_
    exact hx ha1
def fn_Mo_placeAds (c0 : Nat) (S : St) : Option (Int × St) := nm (u S c0 4 0) fun S1 => bnO (fn_Mo_record c0 S1) fun p2 => bnO (lo_Mo_placeAds_11 c0 FU (0, p2)) fun p16 => bnO (lo_Mo_placeAds_56 c0 FU (0, p16)) fun p35 => some (p35.1, p35.2)
theorem tf_Mo_placeAds {E : EV} {X : XT} {c0 : Nat} (hc0 : HC X 11 c0) {S : St} {q : Int × St} (h : fn_Mo_placeAds c0 S = some q) : Ev E M_Mo_placeAds [.ref c0] (WX X S) 0 0 (KI X q.1 q.2) := by
  refine Ev.of pn_Mo rfl (leK rfl) ?_
  show Go E M_Mo_placeAds 0 0 0 [(0, .ref c0)] [] (WX X S) 0 0 (KI X q.1 q.2)
  unfold fn_Mo_placeAds at h
  refine g_aloadn (pc := 0) (i0 := 0) (j := 0) (dK D_Mo_placeAds_0 0 rfl) rfl rfl ?_
  refine vg_iconst (pc := 1) (dK D_Mo_placeAds_0 1 rfl) ?_
  refine nmE h (fun S1 e_S1 h => ?_)
  refine vg_putI (pc := 2) (ci := 11) (f := 4) (z := 0) (dK D_Mo_placeAds_0 2 rfl) q_1446 hc0 (ltK rfl) (ltK rfl) rfl rfl e_S1 ?_
  refine g_aloadn (pc := 5) (i0 := 0) (j := 0) (dK D_Mo_placeAds_0 3 rfl) rfl rfl ?_
  refine bnE h (fun p2 e_p2 h => ?_)
  refine vg_cV (pc := 6) (As := []) (rest := []) (mc' := 0) (ms' := 0) (dK D_Mo_placeAds_0 4 rfl) K_Mo_159 (fitK rfl) (ltK rfl) hc0 rfl (leK rfl) (leK rfl) (leK rfl) (tf_Mo_record hc0 e_p2) (kcU ?_)
  refine vg_iconst (pc := 9) (dK D_Mo_placeAds_0 5 rfl) ?_
  refine g_istoren (pc := 10) (i0 := 1) (ls2 := [(1, V 0), (0, .ref c0)]) (dK D_Mo_placeAds_0 6 rfl) rfl (ltK rfl) rfl ?_
  refine bnE h (fun p16 e_p16 h => ?_)
  refine gL_weak (ls' := [(0, .ref c0), (1, V 0)]) (sbc 1 rfl (sbc 0 rfl sbn)) ?_
  refine tl_Mo_placeAds_11 hc0 ?_ FU (0, p2) e_p16 (inRk rfl)
  refine vg_iconst (pc := 54) (dK D_Mo_placeAds_0 30 rfl) ?_
  refine g_istoren (pc := 55) (i0 := 1) (ls2 := [(1, V 0), (0, .ref c0)]) (dK D_Mo_placeAds_0 31 rfl) rfl (ltK rfl) rfl ?_
  refine bnE h (fun p35 e_p35 h => ?_)
  refine gL_weak (ls' := [(0, .ref c0), (1, V 0)]) (sbc 1 rfl (sbc 0 rfl sbn)) ?_
  refine tl_Mo_placeAds_56 hc0 (fun hx1_p35 => ?_) FU (0, p16) e_p35 (inRk rfl)
  refine g_iloadn (pc := 102) (i0 := 1) (j := 0) (dK D_Mo_placeAds_1 9 rfl) rfl rfl ?_
  exact vg_iretI (pc := 103) (r := p35.1) (dK D_Mo_placeAds_1 10 rfl) rfl (leK rfl) (leK rfl) (fun _ => rfl) (by obtain rfl := Option.some.inj h; exact ⟨rfl, hx1_p35, rfl⟩)
def lb_Mo_layStories_55 (c0 : Nat) (a1 : Int) (a2 : Int) (a3 : Int) (S : St) (go : Int → Option (Int)) (a4 : Int) : Option (Int) := bnO (fn_Mo_pageMany c0 S) fun p6 => if p6 < a4 then (some a4) else (bnO (fn_Mo_storyReasonOf c0 a3 a4 S) fun p7 => if p7 = 0 then (some a4) else (nm (wr (a4 + 1)) fun v8 => go v8))
def lo_Mo_layStories_55 (c0 : Nat) (a1 : Int) (a2 : Int) (a3 : Int) (S : St) : Nat → Int → Option (Int) := lp fun go p => lb_Mo_layStories_55 c0 a1 a2 a3 S go p
theorem tl_Mo_layStories_55 {E : EV} {X : XT} {c0 : Nat} (hc0 : HC X 11 c0) {a1 : Int} (ha1 : inR a1) {a2 : Int} (ha2 : inR a2) {a3 : Int} (ha3 : inR a3) {S : St} {K : RK → PS → Prop} {q : Int} (hx : inR q → Go E M_Mo_layStories 0 0 80 [(0, .ref c0), (1, V a1), (2, V a2), (3, V a3), (4, V q)] [] (WX X S) 0 0 K) : ∀ n a, lo_Mo_layStories_55 c0 a1 a2 a3 S n a = some q → inR a → Go E M_Mo_layStories 0 0 55 [(0, .ref c0), (1, V a1), (2, V a2), (3, V a3), (4, V a)] [] (WX X S) 0 0 K := by
  refine lp_ind (P := fun a : Int => inR a → Go E M_Mo_layStories 0 0 55 [(0, .ref c0), (1, V a1), (2, V a2), (3, V a3), (4, V a)] [] (WX X S) 0 0 K) (fun go ih a4 h => ?_)
  intro ha4
  show Go E M_Mo_layStories 0 0 55 [(0, .ref c0), (1, V a1), (2, V a2), (3, V a3), (4, V a4)] [] (WX X S) 0 0 K
  replace h : lb_Mo_layStories_55 c0 a1 a2 a3 S go a4 = some q := h
  unfold lb_Mo_layStories_55 at h
  refine g_iload (pc := 55) (j := 4) (dK D_Mo_layStories_0 33 rfl) rfl ?_
  refine g_aloadn (pc := 57) (i0 := 0) (j := 0) (dK D_Mo_layStories_0 34 rfl) rfl rfl ?_
  refine bnE h (fun p6 e_p6 h => ?_)
  refine vg_cV (pc := 58) (As := []) (rest := [V a4]) (mc' := 0) (ms' := 0) (dK D_Mo_layStories_0 35 rfl) K_Mo_63 (fitK rfl) (ltK rfl) hc0 rfl (leK rfl) (leK rfl) (leK rfl) (tf_Mo_pageMany hc0 e_p6) (kcI (fun h_p6 => ?_))
  refine vg_icmp_gt (pc := 61) (t := 80) (dK D_Mo_layStories_0 36 rfl) rfl ha4 h_p6 (fun hc10 => ?_) (fun hc10 => ?_)
  · replace h := ifP h hc10
    obtain rfl := Option.some.inj h
    exact hx ha4
  · replace h := ifN h hc10
    refine g_aloadn (pc := 64) (i0 := 0) (j := 0) (dK D_Mo_layStories_0 37 rfl) rfl rfl ?_
    refine g_iloadn (pc := 65) (i0 := 3) (j := 3) (dK D_Mo_layStories_0 38 rfl) rfl rfl ?_
    refine g_iload (pc := 66) (j := 4) (dK D_Mo_layStories_0 39 rfl) rfl ?_
    refine bnE h (fun p7 e_p7 h => ?_)
    refine vg_cV (pc := 68) (As := [V a3, V a4]) (rest := []) (mc' := 0) (ms' := 0) (dK D_Mo_layStories_0 40 rfl) K_Mo_135 (fitK rfl) (ltK rfl) hc0 rfl (leK rfl) (leK rfl) (leK rfl) (tf_Mo_storyReasonOf hc0 ha3 ha4 e_p7) (kcI (fun h_p7 => ?_))
    refine vg_if_eq (pc := 71) (t := 80) (dK D_Mo_layStories_0 41 rfl) rfl h_p7 (fun hc9 => ?_) (fun hc9 => ?_)
    · replace h := ifP h hc9
      obtain rfl := Option.some.inj h
      exact hx ha4
    · replace h := ifN h hc9
      refine nmE h (fun v8 e_v8 h => ?_)
      refine vg_iinc (pc := 74) (j := 4) (a := a4) (z := 1) (ls2 := [(4, V v8), (0, .ref c0), (1, V a1), (2, V a2), (3, V a3)]) (dK D_Mo_layStories_0 42 rfl) rfl e_v8 (ltK rfl) rfl ?_
      refine g_goto (pc := 77) (tgt := 55) (dK D_Mo_layStories_0 43 rfl) rfl ?_
      refine gL_weak (ls' := [(0, .ref c0), (1, V a1), (2, V a2), (3, V a3), (4, V v8)]) (sbc 1 rfl (sbc 2 rfl (sbc 3 rfl (sbc 4 rfl (sbc 0 rfl sbn))))) ?_
      replace h := ih _ h
      exact h (Vn_in e_v8)
def lb_Mo_layStories_20 (c0 : Nat) (a2 : Int) (go : Int × Int × St → Option (Int × St)) (a1 : Int) (a3 : Int) (S : St) : Option (Int × St) := if (g S (tgt c0 0) 2) ≤ a3 then (some (a1, S)) else (bnO (fn_Mo_ofStory c0 a3 0 S) fun p3 => if p3 = a2 then (bnO (fn_Mo_ofStory c0 a3 4 S) fun p5 => if p5 ≤ 0 then (bnO (lo_Mo_layStories_55 c0 a1 a2 a3 S FU 1) fun p11 => bnO (fn_Mo_pageMany c0 S) fun p12 => if p11 ≤ p12 then (if 0 ≤ ((309 + (5 * a3)) + 4) ∧ ((309 + (5 * a3)) + 4) < 8740 then (nm (u S (tgt c0 0) ((((309 + (5 * a3)) + 4)).toNat) p11) fun S14 => nm (wr (a1 + 1)) fun v15 => nm (wr (a3 + 1)) fun v16 => go (v15, v16, S14)) else none) else (nm (wr (a3 + 1)) fun v17 => go (a1, v17, S))) else (nm (wr (a3 + 1)) fun v19 => go (a1, v19, S))) else (nm (wr (a3 + 1)) fun v4 => go (a1, v4, S)))
def lo_Mo_layStories_20 (c0 : Nat) (a2 : Int) : Nat → Int × Int × St → Option (Int × St) := lp fun go p => lb_Mo_layStories_20 c0 a2 go p.1 p.2.1 p.2.2
theorem tl_Mo_layStories_20 {E : EV} {X : XT} {c0 : Nat} (hc0 : HC X 11 c0) {a2 : Int} (ha2 : inR a2) {K : RK → PS → Prop} {q : Int × St} (hx : inR q.1 → Go E M_Mo_layStories 0 0 117 [(0, .ref c0), (1, V q.1), (2, V a2)] [] (WX X q.2) 0 0 K) : ∀ n a, lo_Mo_layStories_20 c0 a2 n a = some q → inR a.1 → inR a.2.1 → Go E M_Mo_layStories 0 0 20 [(0, .ref c0), (1, V a.1), (2, V a2), (3, V a.2.1)] [] (WX X a.2.2) 0 0 K := by
  refine lp_ind (P := fun a : Int × Int × St => inR a.1 → inR a.2.1 → Go E M_Mo_layStories 0 0 20 [(0, .ref c0), (1, V a.1), (2, V a2), (3, V a.2.1)] [] (WX X a.2.2) 0 0 K) (fun go ih a h => ?_)
  obtain ⟨a1, a3, S⟩ := a
  intro ha1 ha3
  show Go E M_Mo_layStories 0 0 20 [(0, .ref c0), (1, V a1), (2, V a2), (3, V a3)] [] (WX X S) 0 0 K
  replace h : lb_Mo_layStories_20 c0 a2 go a1 a3 S = some q := h
  unfold lb_Mo_layStories_20 at h
  refine g_iloadn (pc := 20) (i0 := 3) (j := 3) (dK D_Mo_layStories_0 13 rfl) rfl rfl ?_
  refine g_aloadn (pc := 21) (i0 := 0) (j := 0) (dK D_Mo_layStories_0 14 rfl) rfl rfl ?_
  refine vg_getA (pc := 22) (ci := 11) (f := 0) (dK D_Mo_layStories_0 15 rfl) q_1442 hc0 (ltK rfl) (ltK rfl) rfl ?_
  refine vg_iconst (pc := 25) (dK D_Mo_layStories_0 16 rfl) ?_
  refine vg_iaload (pc := 26) (j := 2) (dK D_Mo_layStories_0 17 rfl) (hw_11_0 hc0) rfl ⟨by decide, by decide⟩ rfl ?_
  refine vg_icmp_ge (pc := 27) (t := 117) (dK D_Mo_layStories_0 18 rfl) rfl ha3 (g_in _ _ _) (fun hc22 => ?_) (fun hc22 => ?_)
  · replace h := ifP h hc22
    obtain rfl := Option.some.inj h
    refine gL_weak (ls' := [(0, .ref c0), (1, V a1), (2, V a2)]) (sbc 0 rfl (sbc 1 rfl (sbc 2 rfl sbn))) ?_
    exact hx ha1
  · replace h := ifN h hc22
    refine g_aloadn (pc := 30) (i0 := 0) (j := 0) (dK D_Mo_layStories_0 19 rfl) rfl rfl ?_
    refine g_iloadn (pc := 31) (i0 := 3) (j := 3) (dK D_Mo_layStories_0 20 rfl) rfl rfl ?_
    refine vg_iconst (pc := 32) (dK D_Mo_layStories_0 21 rfl) ?_
    refine bnE h (fun p3 e_p3 h => ?_)
    refine vg_cV (pc := 33) (As := [V a3, V 0]) (rest := []) (mc' := 0) (ms' := 0) (dK D_Mo_layStories_0 22 rfl) K_Mo_85 (fitK rfl) (ltK rfl) hc0 rfl (leK rfl) (leK rfl) (leK rfl) (tf_Mo_ofStory hc0 ha3 (inRk rfl) e_p3) (kcI (fun h_p3 => ?_))
    refine g_iloadn (pc := 36) (i0 := 2) (j := 2) (dK D_Mo_layStories_0 23 rfl) rfl rfl ?_
    refine vg_icmp_ne (pc := 37) (t := 111) (dK D_Mo_layStories_0 24 rfl) rfl h_p3 ha2 (fun hc21 => ?_) (fun hc21 => ?_)
    · replace h := ifN h hc21
      refine nmE h (fun v4 e_v4 h => ?_)
      refine vg_iinc (pc := 111) (j := 3) (a := a3) (z := 1) (ls2 := [(3, V v4), (0, .ref c0), (1, V a1), (2, V a2)]) (dK D_Mo_layStories_1 11 rfl) rfl e_v4 (ltK rfl) rfl ?_
      refine g_goto (pc := 114) (tgt := 20) (dK D_Mo_layStories_1 12 rfl) rfl ?_
      refine gL_weak (ls' := [(0, .ref c0), (1, V a1), (2, V a2), (3, V v4)]) (sbc 1 rfl (sbc 2 rfl (sbc 3 rfl (sbc 0 rfl sbn)))) ?_
      replace h := ih _ h
      exact h ha1 (Vn_in e_v4)
    · replace h := ifP h hc21
      refine g_aloadn (pc := 40) (i0 := 0) (j := 0) (dK D_Mo_layStories_0 25 rfl) rfl rfl ?_
      refine g_iloadn (pc := 41) (i0 := 3) (j := 3) (dK D_Mo_layStories_0 26 rfl) rfl rfl ?_
      refine vg_iconst (pc := 42) (dK D_Mo_layStories_0 27 rfl) ?_
      refine bnE h (fun p5 e_p5 h => ?_)
      refine vg_cV (pc := 43) (As := [V a3, V 4]) (rest := []) (mc' := 0) (ms' := 0) (dK D_Mo_layStories_0 28 rfl) K_Mo_85 (fitK rfl) (ltK rfl) hc0 rfl (leK rfl) (leK rfl) (leK rfl) (tf_Mo_ofStory hc0 ha3 (inRk rfl) e_p5) (kcI (fun h_p5 => ?_))
      refine vg_if_le (pc := 46) (t := 52) (dK D_Mo_layStories_0 29 rfl) rfl h_p5 (fun hc20 => ?_) (fun hc20 => ?_)
      · replace h := ifP h hc20
        refine vg_iconst (pc := 52) (dK D_Mo_layStories_0 31 rfl) ?_
        refine g_istore (pc := 53) (ls2 := [(4, V 1), (0, .ref c0), (1, V a1), (2, V a2), (3, V a3)]) (dK D_Mo_layStories_0 32 rfl) (ltK rfl) rfl ?_
        refine bnE h (fun p11 e_p11 h => ?_)
        refine gL_weak (ls' := [(0, .ref c0), (1, V a1), (2, V a2), (3, V a3), (4, V 1)]) (sbc 1 rfl (sbc 2 rfl (sbc 3 rfl (sbc 4 rfl (sbc 0 rfl sbn))))) ?_
        refine tl_Mo_layStories_55 hc0 ha1 ha2 ha3 (fun hx4_p11 => ?_) FU 1 e_p11 (inRk rfl)
        refine g_iload (pc := 80) (j := 4) (dK D_Mo_layStories_0 44 rfl) rfl ?_
        refine g_aloadn (pc := 82) (i0 := 0) (j := 0) (dK D_Mo_layStories_0 45 rfl) rfl rfl ?_
        refine bnE h (fun p12 e_p12 h => ?_)
        refine vg_cV (pc := 83) (As := []) (rest := [V p11]) (mc' := 0) (ms' := 0) (dK D_Mo_layStories_0 46 rfl) K_Mo_63 (fitK rfl) (ltK rfl) hc0 rfl (leK rfl) (leK rfl) (leK rfl) (tf_Mo_pageMany hc0 e_p12) (kcI (fun h_p12 => ?_))
        refine vg_icmp_le (pc := 86) (t := 92) (dK D_Mo_layStories_0 47 rfl) rfl hx4_p11 h_p12 (fun hc18 => ?_) (fun hc18 => ?_)
        · replace h := ifP h hc18
          refine g_aloadn (pc := 92) (i0 := 0) (j := 0) (dK D_Mo_layStories_0 49 rfl) rfl rfl ?_
          refine vg_getA (pc := 93) (ci := 11) (f := 0) (dK D_Mo_layStories_1 0 rfl) q_1442 hc0 (ltK rfl) (ltK rfl) rfl ?_
          refine vg_sipush (pc := 96) (dK D_Mo_layStories_1 1 rfl) rfl ?_
          refine vg_iconst (pc := 99) (dK D_Mo_layStories_1 2 rfl) ?_
          refine g_iloadn (pc := 100) (i0 := 3) (j := 3) (dK D_Mo_layStories_1 3 rfl) rfl rfl ?_
          refine vg_imul (pc := 101) (dK D_Mo_layStories_1 4 rfl) ?_
          refine vg_iadd (pc := 102) (dK D_Mo_layStories_1 5 rfl) ?_
          refine vg_iconst (pc := 103) (dK D_Mo_layStories_1 6 rfl) ?_
          refine vg_iadd (pc := 104) (dK D_Mo_layStories_1 7 rfl) ?_
          refine g_iload (pc := 105) (j := 4) (dK D_Mo_layStories_1 8 rfl) rfl ?_
          refine gdE h (fun hi13 h => ?_)
          refine nmE h (fun S14 e_S14 h => ?_)
          refine vg_iastore (pc := 107) (z := p11) (dK D_Mo_layStories_1 9 rfl) (hw_11_0 hc0) rfl hi13 rfl e_S14 ?_
          refine nmE h (fun v15 e_v15 h => ?_)
          refine vg_iinc (pc := 108) (j := 1) (a := a1) (z := 1) (ls2 := [(1, V v15), (0, .ref c0), (2, V a2), (3, V a3), (4, V p11)]) (dK D_Mo_layStories_1 10 rfl) rfl e_v15 (ltK rfl) rfl ?_
          refine nmE h (fun v16 e_v16 h => ?_)
          refine vg_iinc (pc := 111) (j := 3) (a := a3) (z := 1) (ls2 := [(3, V v16), (1, V v15), (0, .ref c0), (2, V a2), (4, V p11)]) (dK D_Mo_layStories_1 11 rfl) rfl e_v16 (ltK rfl) rfl ?_
          refine g_goto (pc := 114) (tgt := 20) (dK D_Mo_layStories_1 12 rfl) rfl ?_
          refine gL_weak (ls' := [(0, .ref c0), (1, V v15), (2, V a2), (3, V v16)]) (sbc 2 rfl (sbc 1 rfl (sbc 3 rfl (sbc 0 rfl sbn)))) ?_
          replace h := ih _ h
          exact h (Vn_in e_v15) (Vn_in e_v16)
        · replace h := ifN h hc18
          refine g_goto (pc := 89) (tgt := 111) (dK D_Mo_layStories_0 48 rfl) rfl ?_
          refine nmE h (fun v17 e_v17 h => ?_)
          refine vg_iinc (pc := 111) (j := 3) (a := a3) (z := 1) (ls2 := [(3, V v17), (0, .ref c0), (1, V a1), (2, V a2), (4, V p11)]) (dK D_Mo_layStories_1 11 rfl) rfl e_v17 (ltK rfl) rfl ?_
          refine g_goto (pc := 114) (tgt := 20) (dK D_Mo_layStories_1 12 rfl) rfl ?_
          refine gL_weak (ls' := [(0, .ref c0), (1, V a1), (2, V a2), (3, V v17)]) (sbc 1 rfl (sbc 2 rfl (sbc 3 rfl (sbc 0 rfl sbn)))) ?_
          replace h := ih _ h
          exact h ha1 (Vn_in e_v17)
      · replace h := ifN h hc20
        refine g_goto (pc := 49) (tgt := 111) (dK D_Mo_layStories_0 30 rfl) rfl ?_
        refine nmE h (fun v19 e_v19 h => ?_)
        refine vg_iinc (pc := 111) (j := 3) (a := a3) (z := 1) (ls2 := [(3, V v19), (0, .ref c0), (1, V a1), (2, V a2)]) (dK D_Mo_layStories_1 11 rfl) rfl e_v19 (ltK rfl) rfl ?_
        refine g_goto (pc := 114) (tgt := 20) (dK D_Mo_layStories_1 12 rfl) rfl ?_
        refine gL_weak (ls' := [(0, .ref c0), (1, V a1), (2, V a2), (3, V v19)]) (sbc 1 rfl (sbc 2 rfl (sbc 3 rfl (sbc 0 rfl sbn)))) ?_
        replace h := ih _ h
        exact h ha1 (Vn_in e_v19)
def lb_Mo_layStories_14 (c0 : Nat) (go : Int × Int × St → Option (Int × St)) (a1 : Int) (a2 : Int) (S : St) : Option (Int × St) := if a2 ≤ 0 then (some (a1, S)) else (bnO (lo_Mo_layStories_20 c0 a2 FU (a1, 0, S)) fun p23 => nm (wr (a2 + (-1))) fun v24 => go (p23.1, v24, p23.2))
def lo_Mo_layStories_14 (c0 : Nat) : Nat → Int × Int × St → Option (Int × St) := lp fun go p => lb_Mo_layStories_14 c0 go p.1 p.2.1 p.2.2
theorem tl_Mo_layStories_14 {E : EV} {X : XT} {c0 : Nat} (hc0 : HC X 11 c0) {K : RK → PS → Prop} {q : Int × St} (hx : inR q.1 → Go E M_Mo_layStories 0 0 123 [(1, V q.1)] [] (WX X q.2) 0 0 K) : ∀ n a, lo_Mo_layStories_14 c0 n a = some q → inR a.1 → inR a.2.1 → Go E M_Mo_layStories 0 0 14 [(0, .ref c0), (1, V a.1), (2, V a.2.1)] [] (WX X a.2.2) 0 0 K := by
  refine lp_ind (P := fun a : Int × Int × St => inR a.1 → inR a.2.1 → Go E M_Mo_layStories 0 0 14 [(0, .ref c0), (1, V a.1), (2, V a.2.1)] [] (WX X a.2.2) 0 0 K) (fun go ih a h => ?_)
  obtain ⟨a1, a2, S⟩ := a
  intro ha1 ha2
  show Go E M_Mo_layStories 0 0 14 [(0, .ref c0), (1, V a1), (2, V a2)] [] (WX X S) 0 0 K
  replace h : lb_Mo_layStories_14 c0 go a1 a2 S = some q := h
  unfold lb_Mo_layStories_14 at h
  refine g_iloadn (pc := 14) (i0 := 2) (j := 2) (dK D_Mo_layStories_0 9 rfl) rfl rfl ?_
  refine vg_if_le (pc := 15) (t := 123) (dK D_Mo_layStories_0 10 rfl) rfl ha2 (fun hc25 => ?_) (fun hc25 => ?_)
  · replace h := ifP h hc25
    obtain rfl := Option.some.inj h
    refine gL_weak (ls' := [(1, V a1)]) (sbc 1 rfl sbn) ?_
    exact hx ha1
  · replace h := ifN h hc25
    refine vg_iconst (pc := 18) (dK D_Mo_layStories_0 11 rfl) ?_
    refine g_istoren (pc := 19) (i0 := 3) (ls2 := [(3, V 0), (0, .ref c0), (1, V a1), (2, V a2)]) (dK D_Mo_layStories_0 12 rfl) rfl (ltK rfl) rfl ?_
    refine bnE h (fun p23 e_p23 h => ?_)
    refine gL_weak (ls' := [(0, .ref c0), (1, V a1), (2, V a2), (3, V 0)]) (sbc 1 rfl (sbc 2 rfl (sbc 3 rfl (sbc 0 rfl sbn)))) ?_
    refine tl_Mo_layStories_20 hc0 ha2 (fun hx1_p23 => ?_) FU (a1, 0, S) e_p23 ha1 (inRk rfl)
    refine nmE h (fun v24 e_v24 h => ?_)
    refine vg_iinc (pc := 117) (j := 2) (a := a2) (z := -1) (ls2 := [(2, V v24), (0, .ref c0), (1, V p23.1)]) (dK D_Mo_layStories_1 13 rfl) rfl e_v24 (ltK rfl) rfl ?_
    refine g_goto (pc := 120) (tgt := 14) (dK D_Mo_layStories_1 14 rfl) rfl ?_
    refine gL_weak (ls' := [(0, .ref c0), (1, V p23.1), (2, V v24)]) (sbc 1 rfl (sbc 2 rfl (sbc 0 rfl sbn))) ?_
    replace h := ih _ h
    exact h hx1_p23 (Vn_in e_v24)
def fn_Mo_layStories (c0 : Nat) (S : St) : Option (Int × St) := nm (u S c0 4 0) fun S1 => bnO (fn_Mo_record c0 S1) fun p2 => bnO (lo_Mo_layStories_14 c0 FU (0, 8, p2)) fun p26 => some (p26.1, p26.2)
theorem tf_Mo_layStories {E : EV} {X : XT} {c0 : Nat} (hc0 : HC X 11 c0) {S : St} {q : Int × St} (h : fn_Mo_layStories c0 S = some q) : Ev E M_Mo_layStories [.ref c0] (WX X S) 0 0 (KI X q.1 q.2) := by
  refine Ev.of pn_Mo rfl (leK rfl) ?_
  show Go E M_Mo_layStories 0 0 0 [(0, .ref c0)] [] (WX X S) 0 0 (KI X q.1 q.2)
  unfold fn_Mo_layStories at h
  refine g_aloadn (pc := 0) (i0 := 0) (j := 0) (dK D_Mo_layStories_0 0 rfl) rfl rfl ?_
  refine vg_iconst (pc := 1) (dK D_Mo_layStories_0 1 rfl) ?_
  refine nmE h (fun S1 e_S1 h => ?_)
  refine vg_putI (pc := 2) (ci := 11) (f := 4) (z := 0) (dK D_Mo_layStories_0 2 rfl) q_1446 hc0 (ltK rfl) (ltK rfl) rfl rfl e_S1 ?_
  refine g_aloadn (pc := 5) (i0 := 0) (j := 0) (dK D_Mo_layStories_0 3 rfl) rfl rfl ?_
  refine bnE h (fun p2 e_p2 h => ?_)
  refine vg_cV (pc := 6) (As := []) (rest := []) (mc' := 0) (ms' := 0) (dK D_Mo_layStories_0 4 rfl) K_Mo_159 (fitK rfl) (ltK rfl) hc0 rfl (leK rfl) (leK rfl) (leK rfl) (tf_Mo_record hc0 e_p2) (kcU ?_)
  refine vg_iconst (pc := 9) (dK D_Mo_layStories_0 5 rfl) ?_
  refine g_istoren (pc := 10) (i0 := 1) (ls2 := [(1, V 0), (0, .ref c0)]) (dK D_Mo_layStories_0 6 rfl) rfl (ltK rfl) rfl ?_
  refine vg_bipush (pc := 11) (dK D_Mo_layStories_0 7 rfl) rfl ?_
  refine g_istoren (pc := 13) (i0 := 2) (ls2 := [(2, V 8), (1, V 0), (0, .ref c0)]) (dK D_Mo_layStories_0 8 rfl) rfl (ltK rfl) rfl ?_
  refine bnE h (fun p26 e_p26 h => ?_)
  refine gL_weak (ls' := [(0, .ref c0), (1, V 0), (2, V 8)]) (sbc 2 rfl (sbc 1 rfl (sbc 0 rfl sbn))) ?_
  refine tl_Mo_layStories_14 hc0 (fun hx1_p26 => ?_) FU (0, 8, p2) e_p26 (inRk rfl) (inRk rfl)
  refine g_iloadn (pc := 123) (i0 := 1) (j := 0) (dK D_Mo_layStories_1 15 rfl) rfl rfl ?_
  exact vg_iretI (pc := 124) (r := p26.1) (dK D_Mo_layStories_1 16 rfl) rfl (leK rfl) (leK rfl) (fun _ => rfl) (by obtain rfl := Option.some.inj h; exact ⟨rfl, hx1_p26, rfl⟩)
def lb_Mo_choicesOf_4 (c0 : Nat) (a1 : Int) (S : St) (go : Int × Int → Option (Int)) (a2 : Int) (a3 : Int) : Option (Int) := bnO (fn_Mo_pageMany c0 S) fun p1 => if p1 < a3 then (some a2) else (bnO (fn_Mo_reasonOf c0 a1 a3 S) fun p2 => if p2 = 0 then (nm (wr (a2 + 1)) fun v5 => nm (wr (a3 + 1)) fun v6 => go (v5, v6)) else (nm (wr (a2 + 0)) fun v3 => nm (wr (a3 + 1)) fun v4 => go (v3, v4)))
def lo_Mo_choicesOf_4 (c0 : Nat) (a1 : Int) (S : St) : Nat → Int × Int → Option (Int) := lp fun go p => lb_Mo_choicesOf_4 c0 a1 S go p.1 p.2
theorem tl_Mo_choicesOf_4 {E : EV} {X : XT} {c0 : Nat} (hc0 : HC X 11 c0) {a1 : Int} (ha1 : inR a1) {S : St} {K : RK → PS → Prop} {q : Int} (hx : inR q → Go E M_Mo_choicesOf 0 0 35 [(2, V q)] [] (WX X S) 0 0 K) : ∀ n a, lo_Mo_choicesOf_4 c0 a1 S n a = some q → inR a.1 → inR a.2 → Go E M_Mo_choicesOf 0 0 4 [(0, .ref c0), (1, V a1), (2, V a.1), (3, V a.2)] [] (WX X S) 0 0 K := by
  refine lp_ind (P := fun a : Int × Int => inR a.1 → inR a.2 → Go E M_Mo_choicesOf 0 0 4 [(0, .ref c0), (1, V a1), (2, V a.1), (3, V a.2)] [] (WX X S) 0 0 K) (fun go ih a h => ?_)
  obtain ⟨a2, a3⟩ := a
  intro ha2 ha3
  show Go E M_Mo_choicesOf 0 0 4 [(0, .ref c0), (1, V a1), (2, V a2), (3, V a3)] [] (WX X S) 0 0 K
  replace h : lb_Mo_choicesOf_4 c0 a1 S go a2 a3 = some q := h
  unfold lb_Mo_choicesOf_4 at h
  refine g_iloadn (pc := 4) (i0 := 3) (j := 3) (dK D_Mo_choicesOf 4 rfl) rfl rfl ?_
  refine g_aloadn (pc := 5) (i0 := 0) (j := 0) (dK D_Mo_choicesOf 5 rfl) rfl rfl ?_
  refine bnE h (fun p1 e_p1 h => ?_)
  refine vg_cV (pc := 6) (As := []) (rest := [V a3]) (mc' := 0) (ms' := 0) (dK D_Mo_choicesOf 6 rfl) K_Mo_63 (fitK rfl) (ltK rfl) hc0 rfl (leK rfl) (leK rfl) (leK rfl) (tf_Mo_pageMany hc0 e_p1) (kcI (fun h_p1 => ?_))
  refine vg_icmp_gt (pc := 9) (t := 35) (dK D_Mo_choicesOf 7 rfl) rfl ha3 h_p1 (fun hc8 => ?_) (fun hc8 => ?_)
  · replace h := ifP h hc8
    obtain rfl := Option.some.inj h
    refine gL_weak (ls' := [(2, V a2)]) (sbc 2 rfl sbn) ?_
    exact hx ha2
  · replace h := ifN h hc8
    refine g_iloadn (pc := 12) (i0 := 2) (j := 2) (dK D_Mo_choicesOf 8 rfl) rfl rfl ?_
    refine g_aloadn (pc := 13) (i0 := 0) (j := 0) (dK D_Mo_choicesOf 9 rfl) rfl rfl ?_
    refine g_iloadn (pc := 14) (i0 := 1) (j := 1) (dK D_Mo_choicesOf 10 rfl) rfl rfl ?_
    refine g_iloadn (pc := 15) (i0 := 3) (j := 3) (dK D_Mo_choicesOf 11 rfl) rfl rfl ?_
    refine bnE h (fun p2 e_p2 h => ?_)
    refine vg_cV (pc := 16) (As := [V a1, V a3]) (rest := [V a2]) (mc' := 0) (ms' := 0) (dK D_Mo_choicesOf 12 rfl) K_Mo_129 (fitK rfl) (ltK rfl) hc0 rfl (leK rfl) (leK rfl) (leK rfl) (tf_Mo_reasonOf hc0 ha1 ha3 e_p2) (kcI (fun h_p2 => ?_))
    refine vg_if_ne (pc := 19) (t := 26) (dK D_Mo_choicesOf 13 rfl) rfl h_p2 (fun hc7 => ?_) (fun hc7 => ?_)
    · replace h := ifN h hc7
      refine vg_iconst (pc := 26) (dK D_Mo_choicesOf 16 rfl) ?_
      refine vg_iadd (pc := 27) (dK D_Mo_choicesOf 17 rfl) ?_
      refine nmE h (fun v3 e_v3 h => ?_)
      refine gtop e_v3 ?_
      refine g_istoren (pc := 28) (i0 := 2) (ls2 := [(2, V v3), (0, .ref c0), (1, V a1), (3, V a3)]) (dK D_Mo_choicesOf 18 rfl) rfl (ltK rfl) rfl ?_
      refine nmE h (fun v4 e_v4 h => ?_)
      refine vg_iinc (pc := 29) (j := 3) (a := a3) (z := 1) (ls2 := [(3, V v4), (2, V v3), (0, .ref c0), (1, V a1)]) (dK D_Mo_choicesOf 19 rfl) rfl e_v4 (ltK rfl) rfl ?_
      refine g_goto (pc := 32) (tgt := 4) (dK D_Mo_choicesOf 20 rfl) rfl ?_
      refine gL_weak (ls' := [(0, .ref c0), (1, V a1), (2, V v3), (3, V v4)]) (sbc 2 rfl (sbc 3 rfl (sbc 1 rfl (sbc 0 rfl sbn)))) ?_
      replace h := ih _ h
      exact h (Vn_in e_v3) (Vn_in e_v4)
    · replace h := ifP h hc7
      refine vg_iconst (pc := 22) (dK D_Mo_choicesOf 14 rfl) ?_
      refine g_goto (pc := 23) (tgt := 27) (dK D_Mo_choicesOf 15 rfl) rfl ?_
      refine vg_iadd (pc := 27) (dK D_Mo_choicesOf 17 rfl) ?_
      refine nmE h (fun v5 e_v5 h => ?_)
      refine gtop e_v5 ?_
      refine g_istoren (pc := 28) (i0 := 2) (ls2 := [(2, V v5), (0, .ref c0), (1, V a1), (3, V a3)]) (dK D_Mo_choicesOf 18 rfl) rfl (ltK rfl) rfl ?_
      refine nmE h (fun v6 e_v6 h => ?_)
      refine vg_iinc (pc := 29) (j := 3) (a := a3) (z := 1) (ls2 := [(3, V v6), (2, V v5), (0, .ref c0), (1, V a1)]) (dK D_Mo_choicesOf 19 rfl) rfl e_v6 (ltK rfl) rfl ?_
      refine g_goto (pc := 32) (tgt := 4) (dK D_Mo_choicesOf 20 rfl) rfl ?_
      refine gL_weak (ls' := [(0, .ref c0), (1, V a1), (2, V v5), (3, V v6)]) (sbc 2 rfl (sbc 3 rfl (sbc 1 rfl (sbc 0 rfl sbn)))) ?_
      replace h := ih _ h
      exact h (Vn_in e_v5) (Vn_in e_v6)
def fn_Mo_choicesOf (c0 : Nat) (a1 : Int) (S : St) : Option (Int) := bnO (lo_Mo_choicesOf_4 c0 a1 S FU (0, 1)) fun p9 => some p9
theorem tf_Mo_choicesOf {E : EV} {X : XT} {c0 : Nat} (hc0 : HC X 11 c0) {a1 : Int} (ha1 : inR a1) {S : St} {q : Int} (h : fn_Mo_choicesOf c0 a1 S = some q) : Ev E M_Mo_choicesOf [.ref c0, V a1] (WX X S) 0 0 (KI X q S) := by
  refine Ev.of pn_Mo rfl (leK rfl) ?_
  show Go E M_Mo_choicesOf 0 0 0 [(0, .ref c0), (1, V a1)] [] (WX X S) 0 0 (KI X q S)
  unfold fn_Mo_choicesOf at h
  refine vg_iconst (pc := 0) (dK D_Mo_choicesOf 0 rfl) ?_
  refine g_istoren (pc := 1) (i0 := 2) (ls2 := [(2, V 0), (0, .ref c0), (1, V a1)]) (dK D_Mo_choicesOf 1 rfl) rfl (ltK rfl) rfl ?_
  refine vg_iconst (pc := 2) (dK D_Mo_choicesOf 2 rfl) ?_
  refine g_istoren (pc := 3) (i0 := 3) (ls2 := [(3, V 1), (2, V 0), (0, .ref c0), (1, V a1)]) (dK D_Mo_choicesOf 3 rfl) rfl (ltK rfl) rfl ?_
  refine bnE h (fun p9 e_p9 h => ?_)
  refine gL_weak (ls' := [(0, .ref c0), (1, V a1), (2, V 0), (3, V 1)]) (sbc 2 rfl (sbc 3 rfl (sbc 1 rfl (sbc 0 rfl sbn)))) ?_
  refine tl_Mo_choicesOf_4 hc0 ha1 (fun hx2_p9 => ?_) FU (0, 1) e_p9 (inRk rfl) (inRk rfl)
  refine g_iloadn (pc := 35) (i0 := 2) (j := 0) (dK D_Mo_choicesOf 21 rfl) rfl rfl ?_
  exact vg_iretI (pc := 36) (r := p9) (dK D_Mo_choicesOf 22 rfl) rfl (leK rfl) (leK rfl) (fun _ => rfl) (by obtain rfl := Option.some.inj h; exact ⟨rfl, hx2_p9, rfl⟩)
def fn_Mo_choices (c0 : Nat) (a1 : Int) (S : St) : Option (Int × St) := nm (u S c0 4 0) fun S1 => bnO (fn_Mo_isAd c0 a1 S1) fun p2 => if p2 = true then (bnO (fn_Mo_throwsIf c0 0 1 S1) fun p4 => if p4.1 = true then (some (0, p4.2)) else (bnO (fn_Mo_choicesOf c0 a1 p4.2) fun p6 => some (p6, p4.2))) else (bnO (fn_Mo_throwsIf c0 1 1 S1) fun p7 => if p7.1 = true then (some (0, p7.2)) else (bnO (fn_Mo_choicesOf c0 a1 p7.2) fun p9 => some (p9, p7.2)))
theorem tf_Mo_choices {E : EV} {X : XT} {c0 : Nat} (hc0 : HC X 11 c0) {a1 : Int} (ha1 : inR a1) {S : St} {q : Int × St} (h : fn_Mo_choices c0 a1 S = some q) : Ev E M_Mo_choices [.ref c0, V a1] (WX X S) 0 0 (KI X q.1 q.2) := by
  refine Ev.of pn_Mo rfl (leK rfl) ?_
  show Go E M_Mo_choices 0 0 0 [(0, .ref c0), (1, V a1)] [] (WX X S) 0 0 (KI X q.1 q.2)
  unfold fn_Mo_choices at h
  refine g_aloadn (pc := 0) (i0 := 0) (j := 0) (dK D_Mo_choices 0 rfl) rfl rfl ?_
  refine vg_iconst (pc := 1) (dK D_Mo_choices 1 rfl) ?_
  refine nmE h (fun S1 e_S1 h => ?_)
  refine vg_putI (pc := 2) (ci := 11) (f := 4) (z := 0) (dK D_Mo_choices 2 rfl) q_1446 hc0 (ltK rfl) (ltK rfl) rfl rfl e_S1 ?_
  refine g_aloadn (pc := 5) (i0 := 0) (j := 0) (dK D_Mo_choices 3 rfl) rfl rfl ?_
  refine g_aloadn (pc := 6) (i0 := 0) (j := 0) (dK D_Mo_choices 4 rfl) rfl rfl ?_
  refine g_iloadn (pc := 7) (i0 := 1) (j := 1) (dK D_Mo_choices 5 rfl) rfl rfl ?_
  refine bnE h (fun p2 e_p2 h => ?_)
  refine vg_cV (pc := 8) (As := [V a1]) (rest := [.ref c0]) (mc' := 0) (ms' := 0) (dK D_Mo_choices 6 rfl) K_Mo_122 (fitK rfl) (ltK rfl) hc0 rfl (leK rfl) (leK rfl) (leK rfl) (tf_Mo_isAd hc0 ha1 e_p2) (kcB ?_)
  refine vg_ifB_ne (pc := 11) (b := p2) (t := 18) (dK D_Mo_choices 7 rfl) rfl (fun hc3 => ?_) (fun hc3 => ?_)
  · replace h := ifP h hc3
    refine vg_iconst (pc := 18) (dK D_Mo_choices 10 rfl) ?_
    refine vg_iconst (pc := 19) (dK D_Mo_choices 11 rfl) ?_
    refine bnE h (fun p4 e_p4 h => ?_)
    refine vg_cV (pc := 20) (As := [V 0, V 1]) (rest := []) (mc' := 0) (ms' := 0) (dK D_Mo_choices 12 rfl) K_Mo_125 (fitK rfl) (ltK rfl) hc0 rfl (leK rfl) (leK rfl) (leK rfl) (tf_Mo_throwsIf hc0 (inRk rfl) (inRk rfl) e_p4) (kcB ?_)
    refine vg_ifB_eq (pc := 23) (b := p4.1) (t := 30) (dK D_Mo_choices 13 rfl) rfl (fun hc5 => ?_) (fun hc5 => ?_)
    · replace h := ifP h hc5
      refine vg_iconst (pc := 26) (dK D_Mo_choices 14 rfl) ?_
      refine g_goto (pc := 27) (tgt := 35) (dK D_Mo_choices 15 rfl) rfl ?_
      exact vg_iretI (pc := 35) (r := 0) (dK D_Mo_choices 19 rfl) rfl (leK rfl) (leK rfl) (fun _ => rfl) (by obtain rfl := Option.some.inj h; exact ⟨rfl, (inRk rfl), rfl⟩)
    · replace h := ifN h hc5
      refine g_aloadn (pc := 30) (i0 := 0) (j := 0) (dK D_Mo_choices 16 rfl) rfl rfl ?_
      refine g_iloadn (pc := 31) (i0 := 1) (j := 1) (dK D_Mo_choices 17 rfl) rfl rfl ?_
      refine bnE h (fun p6 e_p6 h => ?_)
      refine vg_cV (pc := 32) (As := [V a1]) (rest := []) (mc' := 0) (ms' := 0) (dK D_Mo_choices 18 rfl) K_Mo_255 (fitK rfl) (ltK rfl) hc0 rfl (leK rfl) (leK rfl) (leK rfl) (tf_Mo_choicesOf hc0 ha1 e_p6) (kcI (fun h_p6 => ?_))
      exact vg_iretI (pc := 35) (r := p6) (dK D_Mo_choices 19 rfl) rfl (leK rfl) (leK rfl) (fun _ => rfl) (by obtain rfl := Option.some.inj h; exact ⟨rfl, h_p6, rfl⟩)
  · replace h := ifN h hc3
    refine vg_iconst (pc := 14) (dK D_Mo_choices 8 rfl) ?_
    refine g_goto (pc := 15) (tgt := 19) (dK D_Mo_choices 9 rfl) rfl ?_
    refine vg_iconst (pc := 19) (dK D_Mo_choices 11 rfl) ?_
    refine bnE h (fun p7 e_p7 h => ?_)
    refine vg_cV (pc := 20) (As := [V 1, V 1]) (rest := []) (mc' := 0) (ms' := 0) (dK D_Mo_choices 12 rfl) K_Mo_125 (fitK rfl) (ltK rfl) hc0 rfl (leK rfl) (leK rfl) (leK rfl) (tf_Mo_throwsIf hc0 (inRk rfl) (inRk rfl) e_p7) (kcB ?_)
    refine vg_ifB_eq (pc := 23) (b := p7.1) (t := 30) (dK D_Mo_choices 13 rfl) rfl (fun hc8 => ?_) (fun hc8 => ?_)
    · replace h := ifP h hc8
      refine vg_iconst (pc := 26) (dK D_Mo_choices 14 rfl) ?_
      refine g_goto (pc := 27) (tgt := 35) (dK D_Mo_choices 15 rfl) rfl ?_
      exact vg_iretI (pc := 35) (r := 0) (dK D_Mo_choices 19 rfl) rfl (leK rfl) (leK rfl) (fun _ => rfl) (by obtain rfl := Option.some.inj h; exact ⟨rfl, (inRk rfl), rfl⟩)
    · replace h := ifN h hc8
      refine g_aloadn (pc := 30) (i0 := 0) (j := 0) (dK D_Mo_choices 16 rfl) rfl rfl ?_
      refine g_iloadn (pc := 31) (i0 := 1) (j := 1) (dK D_Mo_choices 17 rfl) rfl rfl ?_
      refine bnE h (fun p9 e_p9 h => ?_)
      refine vg_cV (pc := 32) (As := [V a1]) (rest := []) (mc' := 0) (ms' := 0) (dK D_Mo_choices 18 rfl) K_Mo_255 (fitK rfl) (ltK rfl) hc0 rfl (leK rfl) (leK rfl) (leK rfl) (tf_Mo_choicesOf hc0 ha1 e_p9) (kcI (fun h_p9 => ?_))
      exact vg_iretI (pc := 35) (r := p9) (dK D_Mo_choices 19 rfl) rfl (leK rfl) (leK rfl) (fun _ => rfl) (by obtain rfl := Option.some.inj h; exact ⟨rfl, h_p9, rfl⟩)
def fn_Mo_firstPage (c0 : Nat) (a1 : Int) (a2 : Int) (S : St) : Option (Int × St) := nm (u S c0 4 0) fun S1 => bnO (fn_Mo_isAd c0 a1 S1) fun p2 => if p2 = true then (bnO (fn_Mo_throwsIf c0 0 1 S1) fun p4 => if p4.1 = true then (some (0, p4.2)) else (bnO (fn_Mo_firstOf c0 a1 a2 p4.2) fun p6 => some (p6, p4.2))) else (bnO (fn_Mo_throwsIf c0 1 1 S1) fun p7 => if p7.1 = true then (some (0, p7.2)) else (bnO (fn_Mo_firstOf c0 a1 a2 p7.2) fun p9 => some (p9, p7.2)))
theorem tf_Mo_firstPage {E : EV} {X : XT} {c0 : Nat} (hc0 : HC X 11 c0) {a1 : Int} (ha1 : inR a1) {a2 : Int} (ha2 : inR a2) {S : St} {q : Int × St} (h : fn_Mo_firstPage c0 a1 a2 S = some q) : Ev E M_Mo_firstPage [.ref c0, V a1, V a2] (WX X S) 0 0 (KI X q.1 q.2) := by
  refine Ev.of pn_Mo rfl (leK rfl) ?_
  show Go E M_Mo_firstPage 0 0 0 [(0, .ref c0), (1, V a1), (2, V a2)] [] (WX X S) 0 0 (KI X q.1 q.2)
  unfold fn_Mo_firstPage at h
  refine g_aloadn (pc := 0) (i0 := 0) (j := 0) (dK D_Mo_firstPage 0 rfl) rfl rfl ?_
  refine vg_iconst (pc := 1) (dK D_Mo_firstPage 1 rfl) ?_
  refine nmE h (fun S1 e_S1 h => ?_)
  refine vg_putI (pc := 2) (ci := 11) (f := 4) (z := 0) (dK D_Mo_firstPage 2 rfl) q_1446 hc0 (ltK rfl) (ltK rfl) rfl rfl e_S1 ?_
  refine g_aloadn (pc := 5) (i0 := 0) (j := 0) (dK D_Mo_firstPage 3 rfl) rfl rfl ?_
  refine g_aloadn (pc := 6) (i0 := 0) (j := 0) (dK D_Mo_firstPage 4 rfl) rfl rfl ?_
  refine g_iloadn (pc := 7) (i0 := 1) (j := 1) (dK D_Mo_firstPage 5 rfl) rfl rfl ?_
  refine bnE h (fun p2 e_p2 h => ?_)
  refine vg_cV (pc := 8) (As := [V a1]) (rest := [.ref c0]) (mc' := 0) (ms' := 0) (dK D_Mo_firstPage 6 rfl) K_Mo_122 (fitK rfl) (ltK rfl) hc0 rfl (leK rfl) (leK rfl) (leK rfl) (tf_Mo_isAd hc0 ha1 e_p2) (kcB ?_)
  refine vg_ifB_ne (pc := 11) (b := p2) (t := 18) (dK D_Mo_firstPage 7 rfl) rfl (fun hc3 => ?_) (fun hc3 => ?_)
  · replace h := ifP h hc3
    refine vg_iconst (pc := 18) (dK D_Mo_firstPage 10 rfl) ?_
    refine vg_iconst (pc := 19) (dK D_Mo_firstPage 11 rfl) ?_
    refine bnE h (fun p4 e_p4 h => ?_)
    refine vg_cV (pc := 20) (As := [V 0, V 1]) (rest := []) (mc' := 0) (ms' := 0) (dK D_Mo_firstPage 12 rfl) K_Mo_125 (fitK rfl) (ltK rfl) hc0 rfl (leK rfl) (leK rfl) (leK rfl) (tf_Mo_throwsIf hc0 (inRk rfl) (inRk rfl) e_p4) (kcB ?_)
    refine vg_ifB_eq (pc := 23) (b := p4.1) (t := 30) (dK D_Mo_firstPage 13 rfl) rfl (fun hc5 => ?_) (fun hc5 => ?_)
    · replace h := ifP h hc5
      refine vg_iconst (pc := 26) (dK D_Mo_firstPage 14 rfl) ?_
      refine g_goto (pc := 27) (tgt := 36) (dK D_Mo_firstPage 15 rfl) rfl ?_
      exact vg_iretI (pc := 36) (r := 0) (dK D_Mo_firstPage 20 rfl) rfl (leK rfl) (leK rfl) (fun _ => rfl) (by obtain rfl := Option.some.inj h; exact ⟨rfl, (inRk rfl), rfl⟩)
    · replace h := ifN h hc5
      refine g_aloadn (pc := 30) (i0 := 0) (j := 0) (dK D_Mo_firstPage 16 rfl) rfl rfl ?_
      refine g_iloadn (pc := 31) (i0 := 1) (j := 1) (dK D_Mo_firstPage 17 rfl) rfl rfl ?_
      refine g_iloadn (pc := 32) (i0 := 2) (j := 2) (dK D_Mo_firstPage 18 rfl) rfl rfl ?_
      refine bnE h (fun p6 e_p6 h => ?_)
      refine vg_cV (pc := 33) (As := [V a1, V a2]) (rest := []) (mc' := 0) (ms' := 0) (dK D_Mo_firstPage 19 rfl) K_Mo_252 (fitK rfl) (ltK rfl) hc0 rfl (leK rfl) (leK rfl) (leK rfl) (tf_Mo_firstOf hc0 ha1 ha2 e_p6) (kcI (fun h_p6 => ?_))
      exact vg_iretI (pc := 36) (r := p6) (dK D_Mo_firstPage 20 rfl) rfl (leK rfl) (leK rfl) (fun _ => rfl) (by obtain rfl := Option.some.inj h; exact ⟨rfl, h_p6, rfl⟩)
  · replace h := ifN h hc3
    refine vg_iconst (pc := 14) (dK D_Mo_firstPage 8 rfl) ?_
    refine g_goto (pc := 15) (tgt := 19) (dK D_Mo_firstPage 9 rfl) rfl ?_
    refine vg_iconst (pc := 19) (dK D_Mo_firstPage 11 rfl) ?_
    refine bnE h (fun p7 e_p7 h => ?_)
    refine vg_cV (pc := 20) (As := [V 1, V 1]) (rest := []) (mc' := 0) (ms' := 0) (dK D_Mo_firstPage 12 rfl) K_Mo_125 (fitK rfl) (ltK rfl) hc0 rfl (leK rfl) (leK rfl) (leK rfl) (tf_Mo_throwsIf hc0 (inRk rfl) (inRk rfl) e_p7) (kcB ?_)
    refine vg_ifB_eq (pc := 23) (b := p7.1) (t := 30) (dK D_Mo_firstPage 13 rfl) rfl (fun hc8 => ?_) (fun hc8 => ?_)
    · replace h := ifP h hc8
      refine vg_iconst (pc := 26) (dK D_Mo_firstPage 14 rfl) ?_
      refine g_goto (pc := 27) (tgt := 36) (dK D_Mo_firstPage 15 rfl) rfl ?_
      exact vg_iretI (pc := 36) (r := 0) (dK D_Mo_firstPage 20 rfl) rfl (leK rfl) (leK rfl) (fun _ => rfl) (by obtain rfl := Option.some.inj h; exact ⟨rfl, (inRk rfl), rfl⟩)
    · replace h := ifN h hc8
      refine g_aloadn (pc := 30) (i0 := 0) (j := 0) (dK D_Mo_firstPage 16 rfl) rfl rfl ?_
      refine g_iloadn (pc := 31) (i0 := 1) (j := 1) (dK D_Mo_firstPage 17 rfl) rfl rfl ?_
      refine g_iloadn (pc := 32) (i0 := 2) (j := 2) (dK D_Mo_firstPage 18 rfl) rfl rfl ?_
      refine bnE h (fun p9 e_p9 h => ?_)
      refine vg_cV (pc := 33) (As := [V a1, V a2]) (rest := []) (mc' := 0) (ms' := 0) (dK D_Mo_firstPage 19 rfl) K_Mo_252 (fitK rfl) (ltK rfl) hc0 rfl (leK rfl) (leK rfl) (leK rfl) (tf_Mo_firstOf hc0 ha1 ha2 e_p9) (kcI (fun h_p9 => ?_))
      exact vg_iretI (pc := 36) (r := p9) (dK D_Mo_firstPage 20 rfl) rfl (leK rfl) (leK rfl) (fun _ => rfl) (by obtain rfl := Option.some.inj h; exact ⟨rfl, h_p9, rfl⟩)
def lb_Mo_tightest_12 (c0 : Nat) (S : St) (go : Int × Int × Int → Option (Int)) (a1 : Int) (a2 : Int) (a3 : Int) : Option (Int) := if (g S (tgt c0 0) 1) ≤ a3 then (some a1) else (bnO (fn_Mo_ofAd c0 a3 6 S) fun p2 => if p2 ≤ 0 then (bnO (fn_Mo_choicesOf c0 a3 S) fun p3 => if p3 < a2 then (nm (wr (a3 + 1)) fun v4 => go (a3, p3, v4)) else (nm (wr (a3 + 1)) fun v5 => go (a1, a2, v5))) else (nm (wr (a3 + 1)) fun v7 => go (a1, a2, v7)))
def lo_Mo_tightest_12 (c0 : Nat) (S : St) : Nat → Int × Int × Int → Option (Int) := lp fun go p => lb_Mo_tightest_12 c0 S go p.1 p.2.1 p.2.2
theorem tl_Mo_tightest_12 {E : EV} {X : XT} {c0 : Nat} (hc0 : HC X 11 c0) {S : St} {K : RK → PS → Prop} {q : Int} (hx : inR q → Go E M_Mo_tightest 0 0 62 [(1, V q)] [] (WX X S) 0 0 K) : ∀ n a, lo_Mo_tightest_12 c0 S n a = some q → inR a.1 → inR a.2.1 → inR a.2.2 → Go E M_Mo_tightest 0 0 12 [(0, .ref c0), (1, V a.1), (2, V a.2.1), (3, V a.2.2)] [] (WX X S) 0 0 K := by
  refine lp_ind (P := fun a : Int × Int × Int => inR a.1 → inR a.2.1 → inR a.2.2 → Go E M_Mo_tightest 0 0 12 [(0, .ref c0), (1, V a.1), (2, V a.2.1), (3, V a.2.2)] [] (WX X S) 0 0 K) (fun go ih a h => ?_)
  obtain ⟨a1, a2, a3⟩ := a
  intro ha1 ha2 ha3
  show Go E M_Mo_tightest 0 0 12 [(0, .ref c0), (1, V a1), (2, V a2), (3, V a3)] [] (WX X S) 0 0 K
  replace h : lb_Mo_tightest_12 c0 S go a1 a2 a3 = some q := h
  unfold lb_Mo_tightest_12 at h
  refine g_iloadn (pc := 12) (i0 := 3) (j := 3) (dK D_Mo_tightest 9 rfl) rfl rfl ?_
  refine g_aloadn (pc := 13) (i0 := 0) (j := 0) (dK D_Mo_tightest 10 rfl) rfl rfl ?_
  refine vg_getA (pc := 14) (ci := 11) (f := 0) (dK D_Mo_tightest 11 rfl) q_1442 hc0 (ltK rfl) (ltK rfl) rfl ?_
  refine vg_iconst (pc := 17) (dK D_Mo_tightest 12 rfl) ?_
  refine vg_iaload (pc := 18) (j := 1) (dK D_Mo_tightest 13 rfl) (hw_11_0 hc0) rfl ⟨by decide, by decide⟩ rfl ?_
  refine vg_icmp_ge (pc := 19) (t := 62) (dK D_Mo_tightest 14 rfl) rfl ha3 (g_in _ _ _) (fun hc9 => ?_) (fun hc9 => ?_)
  · replace h := ifP h hc9
    obtain rfl := Option.some.inj h
    refine gL_weak (ls' := [(1, V a1)]) (sbc 1 rfl sbn) ?_
    exact hx ha1
  · replace h := ifN h hc9
    refine g_aloadn (pc := 22) (i0 := 0) (j := 0) (dK D_Mo_tightest 15 rfl) rfl rfl ?_
    refine g_iloadn (pc := 23) (i0 := 3) (j := 3) (dK D_Mo_tightest 16 rfl) rfl rfl ?_
    refine vg_bipush (pc := 24) (dK D_Mo_tightest 17 rfl) rfl ?_
    refine bnE h (fun p2 e_p2 h => ?_)
    refine vg_cV (pc := 26) (As := [V a3, V 6]) (rest := []) (mc' := 0) (ms' := 0) (dK D_Mo_tightest 18 rfl) K_Mo_82 (fitK rfl) (ltK rfl) hc0 rfl (leK rfl) (leK rfl) (leK rfl) (tf_Mo_ofAd hc0 ha3 (inRk rfl) e_p2) (kcI (fun h_p2 => ?_))
    refine vg_if_le (pc := 29) (t := 35) (dK D_Mo_tightest 19 rfl) rfl h_p2 (fun hc8 => ?_) (fun hc8 => ?_)
    · replace h := ifP h hc8
      refine g_aloadn (pc := 35) (i0 := 0) (j := 0) (dK D_Mo_tightest 21 rfl) rfl rfl ?_
      refine g_iloadn (pc := 36) (i0 := 3) (j := 3) (dK D_Mo_tightest 22 rfl) rfl rfl ?_
      refine bnE h (fun p3 e_p3 h => ?_)
      refine vg_cV (pc := 37) (As := [V a3]) (rest := []) (mc' := 0) (ms' := 0) (dK D_Mo_tightest 23 rfl) K_Mo_255 (fitK rfl) (ltK rfl) hc0 rfl (leK rfl) (leK rfl) (leK rfl) (tf_Mo_choicesOf hc0 ha3 e_p3) (kcI (fun h_p3 => ?_))
      refine g_istore (pc := 40) (ls2 := [(4, V p3), (0, .ref c0), (1, V a1), (2, V a2), (3, V a3)]) (dK D_Mo_tightest 24 rfl) (ltK rfl) rfl ?_
      refine g_iload (pc := 42) (j := 0) (dK D_Mo_tightest 25 rfl) rfl ?_
      refine g_iloadn (pc := 44) (i0 := 2) (j := 3) (dK D_Mo_tightest 26 rfl) rfl rfl ?_
      refine vg_icmp_lt (pc := 45) (t := 51) (dK D_Mo_tightest 27 rfl) rfl h_p3 ha2 (fun hc6 => ?_) (fun hc6 => ?_)
      · replace h := ifP h hc6
        refine g_iloadn (pc := 51) (i0 := 3) (j := 4) (dK D_Mo_tightest 29 rfl) rfl rfl ?_
        refine g_istoren (pc := 52) (i0 := 1) (ls2 := [(1, V a3), (4, V p3), (0, .ref c0), (2, V a2), (3, V a3)]) (dK D_Mo_tightest 30 rfl) rfl (ltK rfl) rfl ?_
        refine g_iload (pc := 53) (j := 1) (dK D_Mo_tightest 31 rfl) rfl ?_
        refine g_istoren (pc := 55) (i0 := 2) (ls2 := [(2, V p3), (1, V a3), (4, V p3), (0, .ref c0), (3, V a3)]) (dK D_Mo_tightest 32 rfl) rfl (ltK rfl) rfl ?_
        refine nmE h (fun v4 e_v4 h => ?_)
        refine vg_iinc (pc := 56) (j := 4) (a := a3) (z := 1) (ls2 := [(3, V v4), (2, V p3), (1, V a3), (4, V p3), (0, .ref c0)]) (dK D_Mo_tightest 33 rfl) rfl e_v4 (ltK rfl) rfl ?_
        refine g_goto (pc := 59) (tgt := 12) (dK D_Mo_tightest 34 rfl) rfl ?_
        refine gL_weak (ls' := [(0, .ref c0), (1, V a3), (2, V p3), (3, V v4)]) (sbc 4 rfl (sbc 2 rfl (sbc 1 rfl (sbc 0 rfl sbn)))) ?_
        replace h := ih _ h
        exact h ha3 h_p3 (Vn_in e_v4)
      · replace h := ifN h hc6
        refine g_goto (pc := 48) (tgt := 56) (dK D_Mo_tightest 28 rfl) rfl ?_
        refine nmE h (fun v5 e_v5 h => ?_)
        refine vg_iinc (pc := 56) (j := 4) (a := a3) (z := 1) (ls2 := [(3, V v5), (4, V p3), (0, .ref c0), (1, V a1), (2, V a2)]) (dK D_Mo_tightest 33 rfl) rfl e_v5 (ltK rfl) rfl ?_
        refine g_goto (pc := 59) (tgt := 12) (dK D_Mo_tightest 34 rfl) rfl ?_
        refine gL_weak (ls' := [(0, .ref c0), (1, V a1), (2, V a2), (3, V v5)]) (sbc 2 rfl (sbc 3 rfl (sbc 4 rfl (sbc 0 rfl sbn)))) ?_
        replace h := ih _ h
        exact h ha1 ha2 (Vn_in e_v5)
    · replace h := ifN h hc8
      refine g_goto (pc := 32) (tgt := 56) (dK D_Mo_tightest 20 rfl) rfl ?_
      refine nmE h (fun v7 e_v7 h => ?_)
      refine vg_iinc (pc := 56) (j := 3) (a := a3) (z := 1) (ls2 := [(3, V v7), (0, .ref c0), (1, V a1), (2, V a2)]) (dK D_Mo_tightest 33 rfl) rfl e_v7 (ltK rfl) rfl ?_
      refine g_goto (pc := 59) (tgt := 12) (dK D_Mo_tightest 34 rfl) rfl ?_
      refine gL_weak (ls' := [(0, .ref c0), (1, V a1), (2, V a2), (3, V v7)]) (sbc 1 rfl (sbc 2 rfl (sbc 3 rfl (sbc 0 rfl sbn)))) ?_
      replace h := ih _ h
      exact h ha1 ha2 (Vn_in e_v7)
def fn_Mo_tightest (c0 : Nat) (S : St) : Option (Int × St) := nm (u S c0 4 0) fun S1 => bnO (lo_Mo_tightest_12 c0 S1 FU ((-1), 1000000, 0)) fun p10 => some (p10, S1)
theorem tf_Mo_tightest {E : EV} {X : XT} {c0 : Nat} (hc0 : HC X 11 c0) {S : St} {q : Int × St} (h : fn_Mo_tightest c0 S = some q) : Ev E M_Mo_tightest [.ref c0] (WX X S) 0 0 (KI X q.1 q.2) := by
  refine Ev.of pn_Mo rfl (leK rfl) ?_
  show Go E M_Mo_tightest 0 0 0 [(0, .ref c0)] [] (WX X S) 0 0 (KI X q.1 q.2)
  unfold fn_Mo_tightest at h
  refine g_aloadn (pc := 0) (i0 := 0) (j := 0) (dK D_Mo_tightest 0 rfl) rfl rfl ?_
  refine vg_iconst (pc := 1) (dK D_Mo_tightest 1 rfl) ?_
  refine nmE h (fun S1 e_S1 h => ?_)
  refine vg_putI (pc := 2) (ci := 11) (f := 4) (z := 0) (dK D_Mo_tightest 2 rfl) q_1446 hc0 (ltK rfl) (ltK rfl) rfl rfl e_S1 ?_
  refine vg_iconst (pc := 5) (dK D_Mo_tightest 3 rfl) ?_
  refine g_istoren (pc := 6) (i0 := 1) (ls2 := [(1, V (-1)), (0, .ref c0)]) (dK D_Mo_tightest 4 rfl) rfl (ltK rfl) rfl ?_
  refine vg_ldc (pc := 7) (y := 1000000) (dK D_Mo_tightest 5 rfl) q_1616 rfl ?_
  refine g_istoren (pc := 9) (i0 := 2) (ls2 := [(2, V 1000000), (1, V (-1)), (0, .ref c0)]) (dK D_Mo_tightest 6 rfl) rfl (ltK rfl) rfl ?_
  refine vg_iconst (pc := 10) (dK D_Mo_tightest 7 rfl) ?_
  refine g_istoren (pc := 11) (i0 := 3) (ls2 := [(3, V 0), (2, V 1000000), (1, V (-1)), (0, .ref c0)]) (dK D_Mo_tightest 8 rfl) rfl (ltK rfl) rfl ?_
  refine bnE h (fun p10 e_p10 h => ?_)
  refine gL_weak (ls' := [(0, .ref c0), (1, V (-1)), (2, V 1000000), (3, V 0)]) (sbc 3 rfl (sbc 2 rfl (sbc 1 rfl (sbc 0 rfl sbn)))) ?_
  refine tl_Mo_tightest_12 hc0 (fun hx1_p10 => ?_) FU ((-1), 1000000, 0) e_p10 (inRk rfl) (inRk rfl) (inRk rfl)
  refine g_iloadn (pc := 62) (i0 := 1) (j := 0) (dK D_Mo_tightest 35 rfl) rfl rfl ?_
  exact vg_iretI (pc := 63) (r := p10) (dK D_Mo_tightest 36 rfl) rfl (leK rfl) (leK rfl) (fun _ => rfl) (by obtain rfl := Option.some.inj h; exact ⟨rfl, hx1_p10, rfl⟩)
def lb_Mo_leastOf_23 (c0 : Nat) (a1 : Int) (a2 : Int) (a3 : Int) (a4 : Int) (S : St) (go : Int × Int × Int → Option (Int × Int)) (a5 : Int) (a6 : Int) (a7 : Int) : Option (Int × Int) := if a1 ≤ a7 then (some (a5, a6)) else (if (i_and (i_shr a4 a7) 1) = 1 then (if 0 ≤ a7 ∧ a7 < 4 then (bnO (fn_Mo_ofAd c0 (g S (tgt c0 6) a7.toNat) 4 S) fun p10 => nm (wr (a5 + p10)) fun v11 => if (i_and (i_shr a4 a7) 1) = 1 then (bnO (fn_Mo_ofAd c0 (g S (tgt c0 6) a7.toNat) 0 S) fun p14 => nm (wr (a6 + p14)) fun v15 => nm (wr (a7 + 1)) fun v16 => go (v11, v15, v16)) else (nm (wr (a6 + 0)) fun v12 => nm (wr (a7 + 1)) fun v13 => go (v11, v12, v13))) else none) else (nm (wr (a5 + 0)) fun v1 => if (i_and (i_shr a4 a7) 1) = 1 then (if 0 ≤ a7 ∧ a7 < 4 then (bnO (fn_Mo_ofAd c0 (g S (tgt c0 6) a7.toNat) 0 S) fun p5 => nm (wr (a6 + p5)) fun v6 => nm (wr (a7 + 1)) fun v7 => go (v1, v6, v7)) else none) else (nm (wr (a6 + 0)) fun v2 => nm (wr (a7 + 1)) fun v3 => go (v1, v2, v3))))
def lo_Mo_leastOf_23 (c0 : Nat) (a1 : Int) (a2 : Int) (a3 : Int) (a4 : Int) (S : St) : Nat → Int × Int × Int → Option (Int × Int) := lp fun go p => lb_Mo_leastOf_23 c0 a1 a2 a3 a4 S go p.1 p.2.1 p.2.2
theorem tl_Mo_leastOf_23 {E : EV} {X : XT} {c0 : Nat} (hc0 : HC X 11 c0) {a1 : Int} (ha1 : inR a1) {a2 : Int} (ha2 : inR a2) {a3 : Int} (ha3 : inR a3) {a4 : Int} (ha4 : inR a4) {S : St} {K : RK → PS → Prop} {q : Int × Int} (hx : inR q.1 → inR q.2 → Go E M_Mo_leastOf 0 0 99 [(0, .ref c0), (1, V a1), (2, V a2), (3, V a3), (4, V a4), (5, V q.1), (6, V q.2)] [] (WX X S) 0 0 K) : ∀ n a, lo_Mo_leastOf_23 c0 a1 a2 a3 a4 S n a = some q → inR a.1 → inR a.2.1 → inR a.2.2 → Go E M_Mo_leastOf 0 0 23 [(0, .ref c0), (1, V a1), (2, V a2), (3, V a3), (4, V a4), (5, V a.1), (6, V a.2.1), (7, V a.2.2)] [] (WX X S) 0 0 K := by
  refine lp_ind (P := fun a : Int × Int × Int => inR a.1 → inR a.2.1 → inR a.2.2 → Go E M_Mo_leastOf 0 0 23 [(0, .ref c0), (1, V a1), (2, V a2), (3, V a3), (4, V a4), (5, V a.1), (6, V a.2.1), (7, V a.2.2)] [] (WX X S) 0 0 K) (fun go ih a h => ?_)
  obtain ⟨a5, a6, a7⟩ := a
  intro ha5 ha6 ha7
  show Go E M_Mo_leastOf 0 0 23 [(0, .ref c0), (1, V a1), (2, V a2), (3, V a3), (4, V a4), (5, V a5), (6, V a6), (7, V a7)] [] (WX X S) 0 0 K
  replace h : lb_Mo_leastOf_23 c0 a1 a2 a3 a4 S go a5 a6 a7 = some q := h
  unfold lb_Mo_leastOf_23 at h
  refine g_iload (pc := 23) (j := 7) (dK D_Mo_leastOf_0 15 rfl) rfl ?_
  refine g_iloadn (pc := 25) (i0 := 1) (j := 1) (dK D_Mo_leastOf_0 16 rfl) rfl rfl ?_
  refine vg_icmp_ge (pc := 26) (t := 99) (dK D_Mo_leastOf_0 17 rfl) rfl ha7 ha1 (fun hc19 => ?_) (fun hc19 => ?_)
  · replace h := ifP h hc19
    obtain rfl := Option.some.inj h
    refine gL_weak (ls' := [(0, .ref c0), (1, V a1), (2, V a2), (3, V a3), (4, V a4), (5, V a5), (6, V a6)]) (sbc 0 rfl (sbc 1 rfl (sbc 2 rfl (sbc 3 rfl (sbc 4 rfl (sbc 5 rfl (sbc 6 rfl sbn))))))) ?_
    exact hx ha5 ha6
  · replace h := ifN h hc19
    refine g_iload (pc := 29) (j := 5) (dK D_Mo_leastOf_0 18 rfl) rfl ?_
    refine g_iload (pc := 31) (j := 4) (dK D_Mo_leastOf_0 19 rfl) rfl ?_
    refine g_iload (pc := 33) (j := 7) (dK D_Mo_leastOf_0 20 rfl) rfl ?_
    refine vg_ishr (pc := 35) (dK D_Mo_leastOf_0 21 rfl) ?_
    refine vg_iconst (pc := 36) (dK D_Mo_leastOf_0 22 rfl) ?_
    refine vg_iand (pc := 37) (dK D_Mo_leastOf_0 23 rfl) ?_
    refine vg_iconst (pc := 38) (dK D_Mo_leastOf_0 24 rfl) ?_
    refine vg_icmp_ne (pc := 39) (t := 57) (dK D_Mo_leastOf_0 25 rfl) rfl (toInt_in _) (inRk rfl) (fun hc18 => ?_) (fun hc18 => ?_)
    · replace h := ifN h hc18
      refine vg_iconst (pc := 57) (dK D_Mo_leastOf_0 34 rfl) ?_
      refine vg_iadd (pc := 58) (dK D_Mo_leastOf_0 35 rfl) ?_
      refine nmE h (fun v1 e_v1 h => ?_)
      refine gtop e_v1 ?_
      refine g_istore (pc := 59) (ls2 := [(5, V v1), (0, .ref c0), (1, V a1), (2, V a2), (3, V a3), (4, V a4), (6, V a6), (7, V a7)]) (dK D_Mo_leastOf_0 36 rfl) (ltK rfl) rfl ?_
      refine g_iload (pc := 61) (j := 6) (dK D_Mo_leastOf_0 37 rfl) rfl ?_
      refine g_iload (pc := 63) (j := 5) (dK D_Mo_leastOf_0 38 rfl) rfl ?_
      refine g_iload (pc := 65) (j := 7) (dK D_Mo_leastOf_0 39 rfl) rfl ?_
      refine vg_ishr (pc := 67) (dK D_Mo_leastOf_0 40 rfl) ?_
      refine vg_iconst (pc := 68) (dK D_Mo_leastOf_0 41 rfl) ?_
      refine vg_iand (pc := 69) (dK D_Mo_leastOf_0 42 rfl) ?_
      refine vg_iconst (pc := 70) (dK D_Mo_leastOf_0 43 rfl) ?_
      refine vg_icmp_ne (pc := 71) (t := 89) (dK D_Mo_leastOf_0 44 rfl) rfl (toInt_in _) (inRk rfl) (fun hc8 => ?_) (fun hc8 => ?_)
      · replace h := ifN h hc8
        refine vg_iconst (pc := 89) (dK D_Mo_leastOf_1 3 rfl) ?_
        refine vg_iadd (pc := 90) (dK D_Mo_leastOf_1 4 rfl) ?_
        refine nmE h (fun v2 e_v2 h => ?_)
        refine gtop e_v2 ?_
        refine g_istore (pc := 91) (ls2 := [(6, V v2), (5, V v1), (0, .ref c0), (1, V a1), (2, V a2), (3, V a3), (4, V a4), (7, V a7)]) (dK D_Mo_leastOf_1 5 rfl) (ltK rfl) rfl ?_
        refine nmE h (fun v3 e_v3 h => ?_)
        refine vg_iinc (pc := 93) (j := 7) (a := a7) (z := 1) (ls2 := [(7, V v3), (6, V v2), (5, V v1), (0, .ref c0), (1, V a1), (2, V a2), (3, V a3), (4, V a4)]) (dK D_Mo_leastOf_1 6 rfl) rfl e_v3 (ltK rfl) rfl ?_
        refine g_goto (pc := 96) (tgt := 23) (dK D_Mo_leastOf_1 7 rfl) rfl ?_
        refine gL_weak (ls' := [(0, .ref c0), (1, V a1), (2, V a2), (3, V a3), (4, V a4), (5, V v1), (6, V v2), (7, V v3)]) (sbc 3 rfl (sbc 4 rfl (sbc 5 rfl (sbc 6 rfl (sbc 7 rfl (sbc 2 rfl (sbc 1 rfl (sbc 0 rfl sbn)))))))) ?_
        replace h := ih _ h
        exact h (Vn_in e_v1) (Vn_in e_v2) (Vn_in e_v3)
      · replace h := ifP h hc8
        refine g_aloadn (pc := 74) (i0 := 0) (j := 1) (dK D_Mo_leastOf_0 45 rfl) rfl rfl ?_
        refine g_aloadn (pc := 75) (i0 := 0) (j := 1) (dK D_Mo_leastOf_0 46 rfl) rfl rfl ?_
        refine vg_getA (pc := 76) (ci := 11) (f := 6) (dK D_Mo_leastOf_0 47 rfl) q_1448 hc0 (ltK rfl) (ltK rfl) rfl ?_
        refine g_iload (pc := 79) (j := 7) (dK D_Mo_leastOf_0 48 rfl) rfl ?_
        refine gdE h (fun hi4 h => ?_)
        refine vg_iaload (pc := 81) (j := a7.toNat) (dK D_Mo_leastOf_0 49 rfl) (hw_11_6 hc0) rfl hi4 rfl ?_
        refine vg_iconst (pc := 82) (dK D_Mo_leastOf_1 0 rfl) ?_
        refine bnE h (fun p5 e_p5 h => ?_)
        refine vg_cV (pc := 83) (As := [V (g S (tgt c0 6) a7.toNat), V 0]) (rest := [V a6]) (mc' := 0) (ms' := 0) (dK D_Mo_leastOf_1 1 rfl) K_Mo_82 (fitK rfl) (ltK rfl) hc0 rfl (leK rfl) (leK rfl) (leK rfl) (tf_Mo_ofAd hc0 (g_in _ _ _) (inRk rfl) e_p5) (kcI (fun h_p5 => ?_))
        refine g_goto (pc := 86) (tgt := 90) (dK D_Mo_leastOf_1 2 rfl) rfl ?_
        refine vg_iadd (pc := 90) (dK D_Mo_leastOf_1 4 rfl) ?_
        refine nmE h (fun v6 e_v6 h => ?_)
        refine gtop e_v6 ?_
        refine g_istore (pc := 91) (ls2 := [(6, V v6), (5, V v1), (0, .ref c0), (1, V a1), (2, V a2), (3, V a3), (4, V a4), (7, V a7)]) (dK D_Mo_leastOf_1 5 rfl) (ltK rfl) rfl ?_
        refine nmE h (fun v7 e_v7 h => ?_)
        refine vg_iinc (pc := 93) (j := 7) (a := a7) (z := 1) (ls2 := [(7, V v7), (6, V v6), (5, V v1), (0, .ref c0), (1, V a1), (2, V a2), (3, V a3), (4, V a4)]) (dK D_Mo_leastOf_1 6 rfl) rfl e_v7 (ltK rfl) rfl ?_
        refine g_goto (pc := 96) (tgt := 23) (dK D_Mo_leastOf_1 7 rfl) rfl ?_
        refine gL_weak (ls' := [(0, .ref c0), (1, V a1), (2, V a2), (3, V a3), (4, V a4), (5, V v1), (6, V v6), (7, V v7)]) (sbc 3 rfl (sbc 4 rfl (sbc 5 rfl (sbc 6 rfl (sbc 7 rfl (sbc 2 rfl (sbc 1 rfl (sbc 0 rfl sbn)))))))) ?_
        replace h := ih _ h
        exact h (Vn_in e_v1) (Vn_in e_v6) (Vn_in e_v7)
    · replace h := ifP h hc18
      refine g_aloadn (pc := 42) (i0 := 0) (j := 0) (dK D_Mo_leastOf_0 26 rfl) rfl rfl ?_
      refine g_aloadn (pc := 43) (i0 := 0) (j := 0) (dK D_Mo_leastOf_0 27 rfl) rfl rfl ?_
      refine vg_getA (pc := 44) (ci := 11) (f := 6) (dK D_Mo_leastOf_0 28 rfl) q_1448 hc0 (ltK rfl) (ltK rfl) rfl ?_
      refine g_iload (pc := 47) (j := 7) (dK D_Mo_leastOf_0 29 rfl) rfl ?_
      refine gdE h (fun hi9 h => ?_)
      refine vg_iaload (pc := 49) (j := a7.toNat) (dK D_Mo_leastOf_0 30 rfl) (hw_11_6 hc0) rfl hi9 rfl ?_
      refine vg_iconst (pc := 50) (dK D_Mo_leastOf_0 31 rfl) ?_
      refine bnE h (fun p10 e_p10 h => ?_)
      refine vg_cV (pc := 51) (As := [V (g S (tgt c0 6) a7.toNat), V 4]) (rest := [V a5]) (mc' := 0) (ms' := 0) (dK D_Mo_leastOf_0 32 rfl) K_Mo_82 (fitK rfl) (ltK rfl) hc0 rfl (leK rfl) (leK rfl) (leK rfl) (tf_Mo_ofAd hc0 (g_in _ _ _) (inRk rfl) e_p10) (kcI (fun h_p10 => ?_))
      refine g_goto (pc := 54) (tgt := 58) (dK D_Mo_leastOf_0 33 rfl) rfl ?_
      refine vg_iadd (pc := 58) (dK D_Mo_leastOf_0 35 rfl) ?_
      refine nmE h (fun v11 e_v11 h => ?_)
      refine gtop e_v11 ?_
      refine g_istore (pc := 59) (ls2 := [(5, V v11), (0, .ref c0), (1, V a1), (2, V a2), (3, V a3), (4, V a4), (6, V a6), (7, V a7)]) (dK D_Mo_leastOf_0 36 rfl) (ltK rfl) rfl ?_
      refine g_iload (pc := 61) (j := 6) (dK D_Mo_leastOf_0 37 rfl) rfl ?_
      refine g_iload (pc := 63) (j := 5) (dK D_Mo_leastOf_0 38 rfl) rfl ?_
      refine g_iload (pc := 65) (j := 7) (dK D_Mo_leastOf_0 39 rfl) rfl ?_
      refine vg_ishr (pc := 67) (dK D_Mo_leastOf_0 40 rfl) ?_
      refine vg_iconst (pc := 68) (dK D_Mo_leastOf_0 41 rfl) ?_
      refine vg_iand (pc := 69) (dK D_Mo_leastOf_0 42 rfl) ?_
      refine vg_iconst (pc := 70) (dK D_Mo_leastOf_0 43 rfl) ?_
      refine vg_icmp_ne (pc := 71) (t := 89) (dK D_Mo_leastOf_0 44 rfl) rfl (toInt_in _) (inRk rfl) (fun hc17 => ?_) (fun hc17 => ?_)
      · replace h := ifN h hc17
        refine vg_iconst (pc := 89) (dK D_Mo_leastOf_1 3 rfl) ?_
        refine vg_iadd (pc := 90) (dK D_Mo_leastOf_1 4 rfl) ?_
        refine nmE h (fun v12 e_v12 h => ?_)
        refine gtop e_v12 ?_
        refine g_istore (pc := 91) (ls2 := [(6, V v12), (5, V v11), (0, .ref c0), (1, V a1), (2, V a2), (3, V a3), (4, V a4), (7, V a7)]) (dK D_Mo_leastOf_1 5 rfl) (ltK rfl) rfl ?_
        refine nmE h (fun v13 e_v13 h => ?_)
        refine vg_iinc (pc := 93) (j := 7) (a := a7) (z := 1) (ls2 := [(7, V v13), (6, V v12), (5, V v11), (0, .ref c0), (1, V a1), (2, V a2), (3, V a3), (4, V a4)]) (dK D_Mo_leastOf_1 6 rfl) rfl e_v13 (ltK rfl) rfl ?_
        refine g_goto (pc := 96) (tgt := 23) (dK D_Mo_leastOf_1 7 rfl) rfl ?_
        refine gL_weak (ls' := [(0, .ref c0), (1, V a1), (2, V a2), (3, V a3), (4, V a4), (5, V v11), (6, V v12), (7, V v13)]) (sbc 3 rfl (sbc 4 rfl (sbc 5 rfl (sbc 6 rfl (sbc 7 rfl (sbc 2 rfl (sbc 1 rfl (sbc 0 rfl sbn)))))))) ?_
        replace h := ih _ h
        exact h (Vn_in e_v11) (Vn_in e_v12) (Vn_in e_v13)
      · replace h := ifP h hc17
        refine g_aloadn (pc := 74) (i0 := 0) (j := 1) (dK D_Mo_leastOf_0 45 rfl) rfl rfl ?_
        refine g_aloadn (pc := 75) (i0 := 0) (j := 1) (dK D_Mo_leastOf_0 46 rfl) rfl rfl ?_
        refine vg_getA (pc := 76) (ci := 11) (f := 6) (dK D_Mo_leastOf_0 47 rfl) q_1448 hc0 (ltK rfl) (ltK rfl) rfl ?_
        refine g_iload (pc := 79) (j := 7) (dK D_Mo_leastOf_0 48 rfl) rfl ?_
        refine vg_iaload (pc := 81) (j := a7.toNat) (dK D_Mo_leastOf_0 49 rfl) (hw_11_6 hc0) rfl hi9 rfl ?_
        refine vg_iconst (pc := 82) (dK D_Mo_leastOf_1 0 rfl) ?_
        refine bnE h (fun p14 e_p14 h => ?_)
        refine vg_cV (pc := 83) (As := [V (g S (tgt c0 6) a7.toNat), V 0]) (rest := [V a6]) (mc' := 0) (ms' := 0) (dK D_Mo_leastOf_1 1 rfl) K_Mo_82 (fitK rfl) (ltK rfl) hc0 rfl (leK rfl) (leK rfl) (leK rfl) (tf_Mo_ofAd hc0 (g_in _ _ _) (inRk rfl) e_p14) (kcI (fun h_p14 => ?_))
        refine g_goto (pc := 86) (tgt := 90) (dK D_Mo_leastOf_1 2 rfl) rfl ?_
        refine vg_iadd (pc := 90) (dK D_Mo_leastOf_1 4 rfl) ?_
        refine nmE h (fun v15 e_v15 h => ?_)
        refine gtop e_v15 ?_
        refine g_istore (pc := 91) (ls2 := [(6, V v15), (5, V v11), (0, .ref c0), (1, V a1), (2, V a2), (3, V a3), (4, V a4), (7, V a7)]) (dK D_Mo_leastOf_1 5 rfl) (ltK rfl) rfl ?_
        refine nmE h (fun v16 e_v16 h => ?_)
        refine vg_iinc (pc := 93) (j := 7) (a := a7) (z := 1) (ls2 := [(7, V v16), (6, V v15), (5, V v11), (0, .ref c0), (1, V a1), (2, V a2), (3, V a3), (4, V a4)]) (dK D_Mo_leastOf_1 6 rfl) rfl e_v16 (ltK rfl) rfl ?_
        refine g_goto (pc := 96) (tgt := 23) (dK D_Mo_leastOf_1 7 rfl) rfl ?_
        refine gL_weak (ls' := [(0, .ref c0), (1, V a1), (2, V a2), (3, V a3), (4, V a4), (5, V v11), (6, V v15), (7, V v16)]) (sbc 3 rfl (sbc 4 rfl (sbc 5 rfl (sbc 6 rfl (sbc 7 rfl (sbc 2 rfl (sbc 1 rfl (sbc 0 rfl sbn)))))))) ?_
        replace h := ih _ h
        exact h (Vn_in e_v11) (Vn_in e_v15) (Vn_in e_v16)
def lb_Mo_leastOf_6 (c0 : Nat) (a1 : Int) (a2 : Int) (S : St) (go : Int × Int → Option (Int)) (a3 : Int) (a4 : Int) : Option (Int) := if (i_shl 1 a1) ≤ a4 then (some a3) else (bnO (lo_Mo_leastOf_23 c0 a1 a2 a3 a4 S FU (0, 0, 0)) fun p20 => if p20.2 < a2 then (nm (wr (a4 + 1)) fun v21 => go (a3, v21)) else (if a3 ≤ p20.1 then (nm (wr (a4 + 1)) fun v22 => go (a3, v22)) else (nm (wr (a4 + 1)) fun v23 => go (p20.1, v23))))
def lo_Mo_leastOf_6 (c0 : Nat) (a1 : Int) (a2 : Int) (S : St) : Nat → Int × Int → Option (Int) := lp fun go p => lb_Mo_leastOf_6 c0 a1 a2 S go p.1 p.2
theorem tl_Mo_leastOf_6 {E : EV} {X : XT} {c0 : Nat} (hc0 : HC X 11 c0) {a1 : Int} (ha1 : inR a1) {a2 : Int} (ha2 : inR a2) {S : St} {K : RK → PS → Prop} {q : Int} (hx : inR q → Go E M_Mo_leastOf 0 0 124 [(3, V q)] [] (WX X S) 0 0 K) : ∀ n a, lo_Mo_leastOf_6 c0 a1 a2 S n a = some q → inR a.1 → inR a.2 → Go E M_Mo_leastOf 0 0 6 [(0, .ref c0), (1, V a1), (2, V a2), (3, V a.1), (4, V a.2)] [] (WX X S) 0 0 K := by
  refine lp_ind (P := fun a : Int × Int => inR a.1 → inR a.2 → Go E M_Mo_leastOf 0 0 6 [(0, .ref c0), (1, V a1), (2, V a2), (3, V a.1), (4, V a.2)] [] (WX X S) 0 0 K) (fun go ih a h => ?_)
  obtain ⟨a3, a4⟩ := a
  intro ha3 ha4
  show Go E M_Mo_leastOf 0 0 6 [(0, .ref c0), (1, V a1), (2, V a2), (3, V a3), (4, V a4)] [] (WX X S) 0 0 K
  replace h : lb_Mo_leastOf_6 c0 a1 a2 S go a3 a4 = some q := h
  unfold lb_Mo_leastOf_6 at h
  refine g_iload (pc := 6) (j := 4) (dK D_Mo_leastOf_0 4 rfl) rfl ?_
  refine vg_iconst (pc := 8) (dK D_Mo_leastOf_0 5 rfl) ?_
  refine g_iloadn (pc := 9) (i0 := 1) (j := 1) (dK D_Mo_leastOf_0 6 rfl) rfl rfl ?_
  refine vg_ishl (pc := 10) (dK D_Mo_leastOf_0 7 rfl) ?_
  refine vg_icmp_ge (pc := 11) (t := 124) (dK D_Mo_leastOf_0 8 rfl) rfl ha4 (toInt_in _) (fun hc26 => ?_) (fun hc26 => ?_)
  · replace h := ifP h hc26
    obtain rfl := Option.some.inj h
    refine gL_weak (ls' := [(3, V a3)]) (sbc 3 rfl sbn) ?_
    exact hx ha3
  · replace h := ifN h hc26
    refine vg_iconst (pc := 14) (dK D_Mo_leastOf_0 9 rfl) ?_
    refine g_istore (pc := 15) (ls2 := [(5, V 0), (0, .ref c0), (1, V a1), (2, V a2), (3, V a3), (4, V a4)]) (dK D_Mo_leastOf_0 10 rfl) (ltK rfl) rfl ?_
    refine vg_iconst (pc := 17) (dK D_Mo_leastOf_0 11 rfl) ?_
    refine g_istore (pc := 18) (ls2 := [(6, V 0), (5, V 0), (0, .ref c0), (1, V a1), (2, V a2), (3, V a3), (4, V a4)]) (dK D_Mo_leastOf_0 12 rfl) (ltK rfl) rfl ?_
    refine vg_iconst (pc := 20) (dK D_Mo_leastOf_0 13 rfl) ?_
    refine g_istore (pc := 21) (ls2 := [(7, V 0), (6, V 0), (5, V 0), (0, .ref c0), (1, V a1), (2, V a2), (3, V a3), (4, V a4)]) (dK D_Mo_leastOf_0 14 rfl) (ltK rfl) rfl ?_
    refine bnE h (fun p20 e_p20 h => ?_)
    refine gL_weak (ls' := [(0, .ref c0), (1, V a1), (2, V a2), (3, V a3), (4, V a4), (5, V 0), (6, V 0), (7, V 0)]) (sbc 3 rfl (sbc 4 rfl (sbc 5 rfl (sbc 6 rfl (sbc 7 rfl (sbc 2 rfl (sbc 1 rfl (sbc 0 rfl sbn)))))))) ?_
    refine tl_Mo_leastOf_23 hc0 ha1 ha2 ha3 ha4 (fun hx5_p20 hx6_p20 => ?_) FU (0, 0, 0) e_p20 (inRk rfl) (inRk rfl) (inRk rfl)
    refine g_iload (pc := 99) (j := 6) (dK D_Mo_leastOf_1 8 rfl) rfl ?_
    refine g_iloadn (pc := 101) (i0 := 2) (j := 2) (dK D_Mo_leastOf_1 9 rfl) rfl rfl ?_
    refine vg_icmp_lt (pc := 102) (t := 116) (dK D_Mo_leastOf_1 10 rfl) rfl hx6_p20 ha2 (fun hc25 => ?_) (fun hc25 => ?_)
    · replace h := ifP h hc25
      refine g_iloadn (pc := 116) (i0 := 3) (j := 3) (dK D_Mo_leastOf_1 16 rfl) rfl rfl ?_
      refine g_istoren (pc := 117) (i0 := 3) (ls2 := [(3, V a3), (0, .ref c0), (1, V a1), (2, V a2), (4, V a4), (5, V p20.1), (6, V p20.2)]) (dK D_Mo_leastOf_1 17 rfl) rfl (ltK rfl) rfl ?_
      refine nmE h (fun v21 e_v21 h => ?_)
      refine vg_iinc (pc := 118) (j := 4) (a := a4) (z := 1) (ls2 := [(4, V v21), (3, V a3), (0, .ref c0), (1, V a1), (2, V a2), (5, V p20.1), (6, V p20.2)]) (dK D_Mo_leastOf_1 18 rfl) rfl e_v21 (ltK rfl) rfl ?_
      refine g_goto (pc := 121) (tgt := 6) (dK D_Mo_leastOf_1 19 rfl) rfl ?_
      refine gL_weak (ls' := [(0, .ref c0), (1, V a1), (2, V a2), (3, V a3), (4, V v21)]) (sbc 2 rfl (sbc 3 rfl (sbc 4 rfl (sbc 1 rfl (sbc 0 rfl sbn))))) ?_
      replace h := ih _ h
      exact h ha3 (Vn_in e_v21)
    · replace h := ifN h hc25
      refine g_iload (pc := 105) (j := 5) (dK D_Mo_leastOf_1 11 rfl) rfl ?_
      refine g_iloadn (pc := 107) (i0 := 3) (j := 3) (dK D_Mo_leastOf_1 12 rfl) rfl rfl ?_
      refine vg_icmp_ge (pc := 108) (t := 116) (dK D_Mo_leastOf_1 13 rfl) rfl hx5_p20 ha3 (fun hc24 => ?_) (fun hc24 => ?_)
      · replace h := ifP h hc24
        refine g_iloadn (pc := 116) (i0 := 3) (j := 3) (dK D_Mo_leastOf_1 16 rfl) rfl rfl ?_
        refine g_istoren (pc := 117) (i0 := 3) (ls2 := [(3, V a3), (0, .ref c0), (1, V a1), (2, V a2), (4, V a4), (5, V p20.1), (6, V p20.2)]) (dK D_Mo_leastOf_1 17 rfl) rfl (ltK rfl) rfl ?_
        refine nmE h (fun v22 e_v22 h => ?_)
        refine vg_iinc (pc := 118) (j := 4) (a := a4) (z := 1) (ls2 := [(4, V v22), (3, V a3), (0, .ref c0), (1, V a1), (2, V a2), (5, V p20.1), (6, V p20.2)]) (dK D_Mo_leastOf_1 18 rfl) rfl e_v22 (ltK rfl) rfl ?_
        refine g_goto (pc := 121) (tgt := 6) (dK D_Mo_leastOf_1 19 rfl) rfl ?_
        refine gL_weak (ls' := [(0, .ref c0), (1, V a1), (2, V a2), (3, V a3), (4, V v22)]) (sbc 2 rfl (sbc 3 rfl (sbc 4 rfl (sbc 1 rfl (sbc 0 rfl sbn))))) ?_
        replace h := ih _ h
        exact h ha3 (Vn_in e_v22)
      · replace h := ifN h hc24
        refine g_iload (pc := 111) (j := 5) (dK D_Mo_leastOf_1 14 rfl) rfl ?_
        refine g_goto (pc := 113) (tgt := 117) (dK D_Mo_leastOf_1 15 rfl) rfl ?_
        refine g_istoren (pc := 117) (i0 := 3) (ls2 := [(3, V p20.1), (0, .ref c0), (1, V a1), (2, V a2), (4, V a4), (5, V p20.1), (6, V p20.2)]) (dK D_Mo_leastOf_1 17 rfl) rfl (ltK rfl) rfl ?_
        refine nmE h (fun v23 e_v23 h => ?_)
        refine vg_iinc (pc := 118) (j := 4) (a := a4) (z := 1) (ls2 := [(4, V v23), (3, V p20.1), (0, .ref c0), (1, V a1), (2, V a2), (5, V p20.1), (6, V p20.2)]) (dK D_Mo_leastOf_1 18 rfl) rfl e_v23 (ltK rfl) rfl ?_
        refine g_goto (pc := 121) (tgt := 6) (dK D_Mo_leastOf_1 19 rfl) rfl ?_
        refine gL_weak (ls' := [(0, .ref c0), (1, V a1), (2, V a2), (3, V p20.1), (4, V v23)]) (sbc 2 rfl (sbc 3 rfl (sbc 4 rfl (sbc 1 rfl (sbc 0 rfl sbn))))) ?_
        replace h := ih _ h
        exact h hx5_p20 (Vn_in e_v23)
def fn_Mo_leastOf (c0 : Nat) (a1 : Int) (a2 : Int) (S : St) : Option (Int) := bnO (lo_Mo_leastOf_6 c0 a1 a2 S FU (1000000, 0)) fun p27 => some p27
theorem tf_Mo_leastOf {E : EV} {X : XT} {c0 : Nat} (hc0 : HC X 11 c0) {a1 : Int} (ha1 : inR a1) {a2 : Int} (ha2 : inR a2) {S : St} {q : Int} (h : fn_Mo_leastOf c0 a1 a2 S = some q) : Ev E M_Mo_leastOf [.ref c0, V a1, V a2] (WX X S) 0 0 (KI X q S) := by
  refine Ev.of pn_Mo rfl (leK rfl) ?_
  show Go E M_Mo_leastOf 0 0 0 [(0, .ref c0), (1, V a1), (2, V a2)] [] (WX X S) 0 0 (KI X q S)
  unfold fn_Mo_leastOf at h
  refine vg_ldc (pc := 0) (y := 1000000) (dK D_Mo_leastOf_0 0 rfl) q_1616 rfl ?_
  refine g_istoren (pc := 2) (i0 := 3) (ls2 := [(3, V 1000000), (0, .ref c0), (1, V a1), (2, V a2)]) (dK D_Mo_leastOf_0 1 rfl) rfl (ltK rfl) rfl ?_
  refine vg_iconst (pc := 3) (dK D_Mo_leastOf_0 2 rfl) ?_
  refine g_istore (pc := 4) (ls2 := [(4, V 0), (3, V 1000000), (0, .ref c0), (1, V a1), (2, V a2)]) (dK D_Mo_leastOf_0 3 rfl) (ltK rfl) rfl ?_
  refine bnE h (fun p27 e_p27 h => ?_)
  refine gL_weak (ls' := [(0, .ref c0), (1, V a1), (2, V a2), (3, V 1000000), (4, V 0)]) (sbc 2 rfl (sbc 3 rfl (sbc 4 rfl (sbc 1 rfl (sbc 0 rfl sbn))))) ?_
  refine tl_Mo_leastOf_6 hc0 ha1 ha2 (fun hx3_p27 => ?_) FU (1000000, 0) e_p27 (inRk rfl) (inRk rfl)
  refine g_iloadn (pc := 124) (i0 := 3) (j := 0) (dK D_Mo_leastOf_1 20 rfl) rfl rfl ?_
  exact vg_iretI (pc := 125) (r := p27) (dK D_Mo_leastOf_1 21 rfl) rfl (leK rfl) (leK rfl) (fun _ => rfl) (by obtain rfl := Option.some.inj h; exact ⟨rfl, hx3_p27, rfl⟩)
