def fn_Plan_pageReason (c0 : Nat) (a1 : Int) (a2 : Int) (S : St) : Option (Int) := bnO (fn_Plan_isPrinted c0 a2 S) fun p1 => if p1 = true then (some 2) else (if 0 ≤ a2 ∧ a2 < 65 then (if 4 ≤ (g S (tgt c0 5) a2.toNat) then (if 0 ≤ a1 ∧ a1 < 10 then (bnO (fn_Plan_lacksColor c0 (g S (tgt (tgt (tgt c0 0) 1) 1) a1.toNat) a2 S) fun p5 => if p5 = true then (some 4) else (some 0)) else none) else (if (g S (tgt c0 6) a2.toNat) = a1 then (if 0 ≤ a1 ∧ a1 < 10 then (bnO (fn_Plan_lacksColor c0 (g S (tgt (tgt (tgt c0 0) 1) 1) a1.toNat) a2 S) fun p8 => if p8 = true then (some 4) else (some 0)) else none) else (some 3))) else none)
theorem tf_Plan_pageReason {E : EV} {X : XT} {c0 : Nat} (hc0 : HC X 4 c0) {a1 : Int} (ha1 : inR a1) {a2 : Int} (ha2 : inR a2) {S : St} {q : Int} (h : fn_Plan_pageReason c0 a1 a2 S = some q) : Ev E M_Plan_pageReason [.ref c0, V a1, V a2] (WX X S) 0 0 (KI X q S) := by
  refine Ev.of pn_Plan rfl (leK rfl) ?_
  show Go E M_Plan_pageReason 0 0 0 [(0, .ref c0), (1, V a1), (2, V a2)] [] (WX X S) 0 0 (KI X q S)
  unfold fn_Plan_pageReason at h
  refine g_aloadn (pc := 0) (i0 := 0) (j := 0) (dK D_Plan_pageReason 0 rfl) rfl rfl ?_
  refine g_iloadn (pc := 1) (i0 := 2) (j := 2) (dK D_Plan_pageReason 1 rfl) rfl rfl ?_
  refine bnE h (fun p1 e_p1 h => ?_)
  refine vg_cV (pc := 2) (As := [V a2]) (rest := []) (mc' := 0) (ms' := 0) (dK D_Plan_pageReason 2 rfl) K_Plan_135 (fitK rfl) (ltK rfl) hc0 rfl (leK rfl) (leK rfl) (leK rfl) (tf_Plan_isPrinted hc0 ha2 e_p1) (kcB ?_)
  refine vg_ifB_eq (pc := 5) (b := p1) (t := 10) (dK D_Plan_pageReason 3 rfl) rfl (fun hc2 => ?_) (fun hc2 => ?_)
  · replace h := ifP h hc2
    refine vg_iconst (pc := 8) (dK D_Plan_pageReason 4 rfl) ?_
    exact vg_iretI (pc := 9) (r := 2) (dK D_Plan_pageReason 5 rfl) rfl (leK rfl) (leK rfl) (fun _ => rfl) (by obtain rfl := Option.some.inj h; exact ⟨rfl, (inRk rfl), rfl⟩)
  · replace h := ifN h hc2
    refine g_aloadn (pc := 10) (i0 := 0) (j := 0) (dK D_Plan_pageReason 6 rfl) rfl rfl ?_
    refine vg_getA (pc := 11) (ci := 4) (f := 5) (dK D_Plan_pageReason 7 rfl) q_307 hc0 (ltK rfl) (ltK rfl) rfl ?_
    refine g_iloadn (pc := 14) (i0 := 2) (j := 2) (dK D_Plan_pageReason 8 rfl) rfl rfl ?_
    refine gdE h (fun hi3 h => ?_)
    refine vg_iaload (pc := 15) (j := a2.toNat) (dK D_Plan_pageReason 9 rfl) (hw_4_5 hc0) rfl hi3 rfl ?_
    refine vg_iconst (pc := 16) (dK D_Plan_pageReason 10 rfl) ?_
    refine vg_icmp_ge (pc := 17) (t := 32) (dK D_Plan_pageReason 11 rfl) rfl (g_in _ _ _) (inRk rfl) (fun hc11 => ?_) (fun hc11 => ?_)
    · replace h := ifP h hc11
      refine g_aloadn (pc := 32) (i0 := 0) (j := 0) (dK D_Plan_pageReason 20 rfl) rfl rfl ?_
      refine g_aloadn (pc := 33) (i0 := 0) (j := 0) (dK D_Plan_pageReason 21 rfl) rfl rfl ?_
      refine vg_getO (pc := 34) (ci := 4) (f := 0) (dK D_Plan_pageReason 22 rfl) q_290 hc0 (ltK rfl) (ltK rfl) rfl ?_
      refine vg_getO (pc := 37) (ci := 8) (f := 1) (dK D_Plan_pageReason 23 rfl) q_226 (hw_4_0 hc0) (ltK rfl) (ltK rfl) rfl ?_
      refine vg_getA (pc := 40) (ci := 9) (f := 1) (dK D_Plan_pageReason 24 rfl) q_139 (hw_8_1 (hw_4_0 hc0)) (ltK rfl) (ltK rfl) rfl ?_
      refine g_iloadn (pc := 43) (i0 := 1) (j := 1) (dK D_Plan_pageReason 25 rfl) rfl rfl ?_
      refine gdE h (fun hi4 h => ?_)
      refine vg_iaload (pc := 44) (j := a1.toNat) (dK D_Plan_pageReason 26 rfl) (hw_9_1 (hw_8_1 (hw_4_0 hc0))) rfl hi4 rfl ?_
      refine g_iloadn (pc := 45) (i0 := 2) (j := 2) (dK D_Plan_pageReason 27 rfl) rfl rfl ?_
      refine bnE h (fun p5 e_p5 h => ?_)
      refine vg_cV (pc := 46) (As := [V (g S (tgt (tgt (tgt c0 0) 1) 1) a1.toNat), V a2]) (rest := []) (mc' := 0) (ms' := 0) (dK D_Plan_pageReason 28 rfl) K_Plan_139 (fitK rfl) (ltK rfl) hc0 rfl (leK rfl) (leK rfl) (leK rfl) (tf_Plan_lacksColor hc0 (g_in _ _ _) ha2 e_p5) (kcB ?_)
      refine vg_ifB_eq (pc := 49) (b := p5) (t := 56) (dK D_Plan_pageReason 29 rfl) rfl (fun hc6 => ?_) (fun hc6 => ?_)
      · replace h := ifP h hc6
        refine vg_iconst (pc := 52) (dK D_Plan_pageReason 30 rfl) ?_
        refine g_goto (pc := 53) (tgt := 57) (dK D_Plan_pageReason 31 rfl) rfl ?_
        exact vg_iretI (pc := 57) (r := 4) (dK D_Plan_pageReason 33 rfl) rfl (leK rfl) (leK rfl) (fun _ => rfl) (by obtain rfl := Option.some.inj h; exact ⟨rfl, (inRk rfl), rfl⟩)
      · replace h := ifN h hc6
        refine vg_iconst (pc := 56) (dK D_Plan_pageReason 32 rfl) ?_
        exact vg_iretI (pc := 57) (r := 0) (dK D_Plan_pageReason 33 rfl) rfl (leK rfl) (leK rfl) (fun _ => rfl) (by obtain rfl := Option.some.inj h; exact ⟨rfl, (inRk rfl), rfl⟩)
    · replace h := ifN h hc11
      refine g_aloadn (pc := 20) (i0 := 0) (j := 0) (dK D_Plan_pageReason 12 rfl) rfl rfl ?_
      refine vg_getA (pc := 21) (ci := 4) (f := 6) (dK D_Plan_pageReason 13 rfl) q_309 hc0 (ltK rfl) (ltK rfl) rfl ?_
      refine g_iloadn (pc := 24) (i0 := 2) (j := 2) (dK D_Plan_pageReason 14 rfl) rfl rfl ?_
      refine vg_iaload (pc := 25) (j := a2.toNat) (dK D_Plan_pageReason 15 rfl) (hw_4_6 hc0) rfl hi3 rfl ?_
      refine g_iloadn (pc := 26) (i0 := 1) (j := 1) (dK D_Plan_pageReason 16 rfl) rfl rfl ?_
      refine vg_icmp_eq (pc := 27) (t := 32) (dK D_Plan_pageReason 17 rfl) rfl (g_in _ _ _) ha1 (fun hc10 => ?_) (fun hc10 => ?_)
      · replace h := ifP h hc10
        refine g_aloadn (pc := 32) (i0 := 0) (j := 0) (dK D_Plan_pageReason 20 rfl) rfl rfl ?_
        refine g_aloadn (pc := 33) (i0 := 0) (j := 0) (dK D_Plan_pageReason 21 rfl) rfl rfl ?_
        refine vg_getO (pc := 34) (ci := 4) (f := 0) (dK D_Plan_pageReason 22 rfl) q_290 hc0 (ltK rfl) (ltK rfl) rfl ?_
        refine vg_getO (pc := 37) (ci := 8) (f := 1) (dK D_Plan_pageReason 23 rfl) q_226 (hw_4_0 hc0) (ltK rfl) (ltK rfl) rfl ?_
        refine vg_getA (pc := 40) (ci := 9) (f := 1) (dK D_Plan_pageReason 24 rfl) q_139 (hw_8_1 (hw_4_0 hc0)) (ltK rfl) (ltK rfl) rfl ?_
        refine g_iloadn (pc := 43) (i0 := 1) (j := 1) (dK D_Plan_pageReason 25 rfl) rfl rfl ?_
        refine gdE h (fun hi7 h => ?_)
        refine vg_iaload (pc := 44) (j := a1.toNat) (dK D_Plan_pageReason 26 rfl) (hw_9_1 (hw_8_1 (hw_4_0 hc0))) rfl hi7 rfl ?_
        refine g_iloadn (pc := 45) (i0 := 2) (j := 2) (dK D_Plan_pageReason 27 rfl) rfl rfl ?_
        refine bnE h (fun p8 e_p8 h => ?_)
        refine vg_cV (pc := 46) (As := [V (g S (tgt (tgt (tgt c0 0) 1) 1) a1.toNat), V a2]) (rest := []) (mc' := 0) (ms' := 0) (dK D_Plan_pageReason 28 rfl) K_Plan_139 (fitK rfl) (ltK rfl) hc0 rfl (leK rfl) (leK rfl) (leK rfl) (tf_Plan_lacksColor hc0 (g_in _ _ _) ha2 e_p8) (kcB ?_)
        refine vg_ifB_eq (pc := 49) (b := p8) (t := 56) (dK D_Plan_pageReason 29 rfl) rfl (fun hc9 => ?_) (fun hc9 => ?_)
        · replace h := ifP h hc9
          refine vg_iconst (pc := 52) (dK D_Plan_pageReason 30 rfl) ?_
          refine g_goto (pc := 53) (tgt := 57) (dK D_Plan_pageReason 31 rfl) rfl ?_
          exact vg_iretI (pc := 57) (r := 4) (dK D_Plan_pageReason 33 rfl) rfl (leK rfl) (leK rfl) (fun _ => rfl) (by obtain rfl := Option.some.inj h; exact ⟨rfl, (inRk rfl), rfl⟩)
        · replace h := ifN h hc9
          refine vg_iconst (pc := 56) (dK D_Plan_pageReason 32 rfl) ?_
          exact vg_iretI (pc := 57) (r := 0) (dK D_Plan_pageReason 33 rfl) rfl (leK rfl) (leK rfl) (fun _ => rfl) (by obtain rfl := Option.some.inj h; exact ⟨rfl, (inRk rfl), rfl⟩)
      · replace h := ifN h hc10
        refine vg_iconst (pc := 30) (dK D_Plan_pageReason 18 rfl) ?_
        exact vg_iretI (pc := 31) (r := 3) (dK D_Plan_pageReason 19 rfl) rfl (leK rfl) (leK rfl) (fun _ => rfl) (by obtain rfl := Option.some.inj h; exact ⟨rfl, (inRk rfl), rfl⟩)
def fn_Plan_lowerReason (a0 : Int) (a1 : Int) (S : St) : Option (Int) := if a0 = 0 then (some (wr (a0 + a1))) else (if a1 = 0 then (some (wr (a0 + a1))) else (some (i_min a0 a1)))
theorem tf_Plan_lowerReason {E : EV} {X : XT} {a0 : Int} (ha0 : inR a0) {a1 : Int} (ha1 : inR a1) {S : St} {q : Int} (h : fn_Plan_lowerReason a0 a1 S = some q) : Ev E M_Plan_lowerReason [V a0, V a1] (WX X S) 0 0 (KI X q S) := by
  refine Ev.of pn_Plan rfl (leK rfl) ?_
  show Go E M_Plan_lowerReason 0 0 0 [(0, V a0), (1, V a1)] [] (WX X S) 0 0 (KI X q S)
  unfold fn_Plan_lowerReason at h
  refine g_iloadn (pc := 0) (i0 := 0) (j := 0) (dK D_Plan_lowerReason 0 rfl) rfl rfl ?_
  refine vg_if_eq (pc := 1) (t := 8) (dK D_Plan_lowerReason 1 rfl) rfl ha0 (fun hc2 => ?_) (fun hc2 => ?_)
  · replace h := ifP h hc2
    refine g_iloadn (pc := 8) (i0 := 0) (j := 0) (dK D_Plan_lowerReason 4 rfl) rfl rfl ?_
    refine g_iloadn (pc := 9) (i0 := 1) (j := 1) (dK D_Plan_lowerReason 5 rfl) rfl rfl ?_
    refine vg_iadd (pc := 10) (dK D_Plan_lowerReason 6 rfl) ?_
    refine gtop (x := (wr (a0 + a1))) rfl ?_
    exact vg_iretI (pc := 11) (r := (wr (a0 + a1))) (dK D_Plan_lowerReason 7 rfl) rfl (leK rfl) (leK rfl) (fun _ => rfl) (by obtain rfl := Option.some.inj h; exact ⟨rfl, (wr_in _), rfl⟩)
  · replace h := ifN h hc2
    refine g_iloadn (pc := 4) (i0 := 1) (j := 1) (dK D_Plan_lowerReason 2 rfl) rfl rfl ?_
    refine vg_if_ne (pc := 5) (t := 12) (dK D_Plan_lowerReason 3 rfl) rfl ha1 (fun hc1 => ?_) (fun hc1 => ?_)
    · replace h := ifN h hc1
      refine g_iloadn (pc := 12) (i0 := 0) (j := 0) (dK D_Plan_lowerReason 8 rfl) rfl rfl ?_
      refine g_iloadn (pc := 13) (i0 := 1) (j := 1) (dK D_Plan_lowerReason 9 rfl) rfl rfl ?_
      refine vg_mmin (pc := 14) (dK D_Plan_lowerReason 10 rfl) q_279 (leK rfl) (leK rfl) (leK rfl) (leK rfl) ha0 ha1 ?_
      exact vg_iretI (pc := 17) (r := (i_min a0 a1)) (dK D_Plan_lowerReason 11 rfl) rfl (leK rfl) (leK rfl) (fun _ => rfl) (by obtain rfl := Option.some.inj h; exact ⟨rfl, (i_min_in ha0 ha1), rfl⟩)
    · replace h := ifP h hc1
      refine g_iloadn (pc := 8) (i0 := 0) (j := 0) (dK D_Plan_lowerReason 4 rfl) rfl rfl ?_
      refine g_iloadn (pc := 9) (i0 := 1) (j := 1) (dK D_Plan_lowerReason 5 rfl) rfl rfl ?_
      refine vg_iadd (pc := 10) (dK D_Plan_lowerReason 6 rfl) ?_
      refine gtop (x := (wr (a0 + a1))) rfl ?_
      exact vg_iretI (pc := 11) (r := (wr (a0 + a1))) (dK D_Plan_lowerReason 7 rfl) rfl (leK rfl) (leK rfl) (fun _ => rfl) (by obtain rfl := Option.some.inj h; exact ⟨rfl, (wr_in _), rfl⟩)
def lb_Plan_layReason_69 (c0 : Nat) (a1 : Int) (a2 : Int) (a3 : Int) (S : St) (go : Int × Int → Option (Int)) (a4 : Int) (a5 : Int) : Option (Int) := if a3 ≤ a5 then (some a4) else (nm (wr (a2 + a5)) fun v5 => bnO (fn_Plan_pageReason c0 a1 v5 S) fun p6 => bnO (fn_Plan_lowerReason a4 p6 S) fun p7 => nm (wr (a5 + 1)) fun v8 => go (p7, v8))
def lo_Plan_layReason_69 (c0 : Nat) (a1 : Int) (a2 : Int) (a3 : Int) (S : St) : Nat → Int × Int → Option (Int) := lp fun go p => lb_Plan_layReason_69 c0 a1 a2 a3 S go p.1 p.2
theorem tl_Plan_layReason_69 {E : EV} {X : XT} {c0 : Nat} (hc0 : HC X 4 c0) {a1 : Int} (ha1 : inR a1) {a2 : Int} (ha2 : inR a2) {a3 : Int} (ha3 : inR a3) {S : St} {K : RK → PS → Prop} {q : Int} (hx : inR q → Go E M_Plan_layReason 0 0 97 [(4, V q)] [] (WX X S) 0 0 K) : ∀ n a, lo_Plan_layReason_69 c0 a1 a2 a3 S n a = some q → inR a.1 → inR a.2 → Go E M_Plan_layReason 0 0 69 [(0, .ref c0), (1, V a1), (2, V a2), (3, V a3), (4, V a.1), (5, V a.2)] [] (WX X S) 0 0 K := by
  refine lp_ind (P := fun a : Int × Int => inR a.1 → inR a.2 → Go E M_Plan_layReason 0 0 69 [(0, .ref c0), (1, V a1), (2, V a2), (3, V a3), (4, V a.1), (5, V a.2)] [] (WX X S) 0 0 K) (fun go ih a h => ?_)
  obtain ⟨a4, a5⟩ := a
  intro ha4 ha5
  show Go E M_Plan_layReason 0 0 69 [(0, .ref c0), (1, V a1), (2, V a2), (3, V a3), (4, V a4), (5, V a5)] [] (WX X S) 0 0 K
  replace h : lb_Plan_layReason_69 c0 a1 a2 a3 S go a4 a5 = some q := h
  unfold lb_Plan_layReason_69 at h
  refine g_iload (pc := 69) (j := 5) (dK D_Plan_layReason_0 39 rfl) rfl ?_
  refine g_iloadn (pc := 71) (i0 := 3) (j := 3) (dK D_Plan_layReason_0 40 rfl) rfl rfl ?_
  refine vg_icmp_ge (pc := 72) (t := 97) (dK D_Plan_layReason_0 41 rfl) rfl ha5 ha3 (fun hc9 => ?_) (fun hc9 => ?_)
  · replace h := ifP h hc9
    obtain rfl := Option.some.inj h
    refine gL_weak (ls' := [(4, V a4)]) (sbc 4 rfl sbn) ?_
    exact hx ha4
  · replace h := ifN h hc9
    refine g_iload (pc := 75) (j := 4) (dK D_Plan_layReason_0 42 rfl) rfl ?_
    refine g_aloadn (pc := 77) (i0 := 0) (j := 0) (dK D_Plan_layReason_0 43 rfl) rfl rfl ?_
    refine g_iloadn (pc := 78) (i0 := 1) (j := 1) (dK D_Plan_layReason_0 44 rfl) rfl rfl ?_
    refine g_iloadn (pc := 79) (i0 := 2) (j := 2) (dK D_Plan_layReason_0 45 rfl) rfl rfl ?_
    refine g_iload (pc := 80) (j := 5) (dK D_Plan_layReason_0 46 rfl) rfl ?_
    refine vg_iadd (pc := 82) (dK D_Plan_layReason_0 47 rfl) ?_
    refine nmE h (fun v5 e_v5 h => ?_)
    refine gtop e_v5 ?_
    refine bnE h (fun p6 e_p6 h => ?_)
    refine vg_cV (pc := 83) (As := [V a1, V v5]) (rest := [V a4]) (mc' := 0) (ms' := 0) (dK D_Plan_layReason_0 48 rfl) K_Plan_156 (fitK rfl) (ltK rfl) hc0 rfl (leK rfl) (leK rfl) (leK rfl) (tf_Plan_pageReason hc0 ha1 (Vn_in e_v5) e_p6) (kcI (fun h_p6 => ?_))
    refine bnE h (fun p7 e_p7 h => ?_)
    refine vg_cS (pc := 86) (As := [V a4, V p6]) (rest := []) (mc' := 0) (ms' := 0) (dK D_Plan_layReason_0 49 rfl) K_Plan_159 (fitK rfl) rfl (leK rfl) (leK rfl) (leK rfl) (tf_Plan_lowerReason ha4 h_p6 e_p7) (kcI (fun h_p7 => ?_))
    refine g_istore (pc := 89) (ls2 := [(4, V p7), (0, .ref c0), (1, V a1), (2, V a2), (3, V a3), (5, V a5)]) (dK D_Plan_layReason_1 0 rfl) (ltK rfl) rfl ?_
    refine nmE h (fun v8 e_v8 h => ?_)
    refine vg_iinc (pc := 91) (j := 5) (a := a5) (z := 1) (ls2 := [(5, V v8), (4, V p7), (0, .ref c0), (1, V a1), (2, V a2), (3, V a3)]) (dK D_Plan_layReason_1 1 rfl) rfl e_v8 (ltK rfl) rfl ?_
    refine g_goto (pc := 94) (tgt := 69) (dK D_Plan_layReason_1 2 rfl) rfl ?_
    refine gL_weak (ls' := [(0, .ref c0), (1, V a1), (2, V a2), (3, V a3), (4, V p7), (5, V v8)]) (sbc 2 rfl (sbc 3 rfl (sbc 4 rfl (sbc 5 rfl (sbc 1 rfl (sbc 0 rfl sbn)))))) ?_
    replace h := ih _ h
    exact h h_p7 (Vn_in e_v8)
def fn_Plan_layReason (c0 : Nat) (a1 : Int) (a2 : Int) (S : St) : Option (Int) := if 0 ≤ a1 ∧ a1 < 10 then (if a2 < 1 then (some 1) else (if (g S c0 1) < a2 then (some 1) else (nm (wr ((a2 + (g S (tgt (tgt (tgt c0 0) 1) 0) a1.toNat)) - 1)) fun v2 => if v2 ≤ (g S c0 1) then (bnO (fn_Plan_isWrongSide (g S (tgt (tgt (tgt c0 0) 1) 2) a1.toNat) a2 S) fun p3 => if p3 = true then (bnO (lo_Plan_layReason_69 c0 a1 a2 (g S (tgt (tgt (tgt c0 0) 1) 0) a1.toNat) S FU (5, 0)) fun p11 => some p11) else (bnO (lo_Plan_layReason_69 c0 a1 a2 (g S (tgt (tgt (tgt c0 0) 1) 0) a1.toNat) S FU (0, 0)) fun p10 => some p10)) else (some 1)))) else none
theorem tf_Plan_layReason {E : EV} {X : XT} {c0 : Nat} (hc0 : HC X 4 c0) {a1 : Int} (ha1 : inR a1) {a2 : Int} (ha2 : inR a2) {S : St} {q : Int} (h : fn_Plan_layReason c0 a1 a2 S = some q) : Ev E M_Plan_layReason [.ref c0, V a1, V a2] (WX X S) 0 0 (KI X q S) := by
  refine Ev.of pn_Plan rfl (leK rfl) ?_
  show Go E M_Plan_layReason 0 0 0 [(0, .ref c0), (1, V a1), (2, V a2)] [] (WX X S) 0 0 (KI X q S)
  unfold fn_Plan_layReason at h
  refine g_aloadn (pc := 0) (i0 := 0) (j := 0) (dK D_Plan_layReason_0 0 rfl) rfl rfl ?_
  refine vg_getO (pc := 1) (ci := 4) (f := 0) (dK D_Plan_layReason_0 1 rfl) q_290 hc0 (ltK rfl) (ltK rfl) rfl ?_
  refine vg_getO (pc := 4) (ci := 8) (f := 1) (dK D_Plan_layReason_0 2 rfl) q_226 (hw_4_0 hc0) (ltK rfl) (ltK rfl) rfl ?_
  refine vg_getA (pc := 7) (ci := 9) (f := 0) (dK D_Plan_layReason_0 3 rfl) q_135 (hw_8_1 (hw_4_0 hc0)) (ltK rfl) (ltK rfl) rfl ?_
  refine g_iloadn (pc := 10) (i0 := 1) (j := 1) (dK D_Plan_layReason_0 4 rfl) rfl rfl ?_
  refine gdE h (fun hi1 h => ?_)
  refine vg_iaload (pc := 11) (j := a1.toNat) (dK D_Plan_layReason_0 5 rfl) (hw_9_0 (hw_8_1 (hw_4_0 hc0))) rfl hi1 rfl ?_
  refine g_istoren (pc := 12) (i0 := 3) (ls2 := [(3, V (g S (tgt (tgt (tgt c0 0) 1) 0) a1.toNat)), (0, .ref c0), (1, V a1), (2, V a2)]) (dK D_Plan_layReason_0 6 rfl) rfl (ltK rfl) rfl ?_
  refine g_iloadn (pc := 13) (i0 := 2) (j := 3) (dK D_Plan_layReason_0 7 rfl) rfl rfl ?_
  refine vg_iconst (pc := 14) (dK D_Plan_layReason_0 8 rfl) ?_
  refine vg_icmp_lt (pc := 15) (t := 38) (dK D_Plan_layReason_0 9 rfl) rfl ha2 (inRk rfl) (fun hc14 => ?_) (fun hc14 => ?_)
  · replace h := ifP h hc14
    refine vg_iconst (pc := 38) (dK D_Plan_layReason_0 22 rfl) ?_
    exact vg_iretI (pc := 39) (r := 1) (dK D_Plan_layReason_0 23 rfl) rfl (leK rfl) (leK rfl) (fun _ => rfl) (by obtain rfl := Option.some.inj h; exact ⟨rfl, (inRk rfl), rfl⟩)
  · replace h := ifN h hc14
    refine g_iloadn (pc := 18) (i0 := 2) (j := 3) (dK D_Plan_layReason_0 10 rfl) rfl rfl ?_
    refine g_aloadn (pc := 19) (i0 := 0) (j := 1) (dK D_Plan_layReason_0 11 rfl) rfl rfl ?_
    refine vg_getI (pc := 20) (ci := 4) (f := 1) (dK D_Plan_layReason_0 12 rfl) q_294 hc0 (ltK rfl) (ltK rfl) rfl ?_
    refine vg_icmp_gt (pc := 23) (t := 38) (dK D_Plan_layReason_0 13 rfl) rfl ha2 (g_in _ _ _) (fun hc13 => ?_) (fun hc13 => ?_)
    · replace h := ifP h hc13
      refine vg_iconst (pc := 38) (dK D_Plan_layReason_0 22 rfl) ?_
      exact vg_iretI (pc := 39) (r := 1) (dK D_Plan_layReason_0 23 rfl) rfl (leK rfl) (leK rfl) (fun _ => rfl) (by obtain rfl := Option.some.inj h; exact ⟨rfl, (inRk rfl), rfl⟩)
    · replace h := ifN h hc13
      refine g_iloadn (pc := 26) (i0 := 2) (j := 3) (dK D_Plan_layReason_0 14 rfl) rfl rfl ?_
      refine g_iloadn (pc := 27) (i0 := 3) (j := 0) (dK D_Plan_layReason_0 15 rfl) rfl rfl ?_
      refine vg_iadd (pc := 28) (dK D_Plan_layReason_0 16 rfl) ?_
      refine vg_iconst (pc := 29) (dK D_Plan_layReason_0 17 rfl) ?_
      refine vg_isub (pc := 30) (dK D_Plan_layReason_0 18 rfl) ?_
      refine g_aloadn (pc := 31) (i0 := 0) (j := 1) (dK D_Plan_layReason_0 19 rfl) rfl rfl ?_
      refine vg_getI (pc := 32) (ci := 4) (f := 1) (dK D_Plan_layReason_0 20 rfl) q_294 hc0 (ltK rfl) (ltK rfl) rfl ?_
      refine nmE h (fun v2 e_v2 h => ?_)
      refine gsk (st' := [V (g S c0 1), V v2]) (by rw [Vn e_v2]) ?_
      refine vg_icmp_le (pc := 35) (t := 40) (dK D_Plan_layReason_0 21 rfl) rfl (Vn_in e_v2) (g_in _ _ _) (fun hc12 => ?_) (fun hc12 => ?_)
      · replace h := ifP h hc12
        refine g_aloadn (pc := 40) (i0 := 0) (j := 1) (dK D_Plan_layReason_0 24 rfl) rfl rfl ?_
        refine vg_getO (pc := 41) (ci := 4) (f := 0) (dK D_Plan_layReason_0 25 rfl) q_290 hc0 (ltK rfl) (ltK rfl) rfl ?_
        refine vg_getO (pc := 44) (ci := 8) (f := 1) (dK D_Plan_layReason_0 26 rfl) q_226 (hw_4_0 hc0) (ltK rfl) (ltK rfl) rfl ?_
        refine vg_getA (pc := 47) (ci := 9) (f := 2) (dK D_Plan_layReason_0 27 rfl) q_143 (hw_8_1 (hw_4_0 hc0)) (ltK rfl) (ltK rfl) rfl ?_
        refine g_iloadn (pc := 50) (i0 := 1) (j := 2) (dK D_Plan_layReason_0 28 rfl) rfl rfl ?_
        refine vg_iaload (pc := 51) (j := a1.toNat) (dK D_Plan_layReason_0 29 rfl) (hw_9_2 (hw_8_1 (hw_4_0 hc0))) rfl hi1 rfl ?_
        refine g_iloadn (pc := 52) (i0 := 2) (j := 3) (dK D_Plan_layReason_0 30 rfl) rfl rfl ?_
        refine bnE h (fun p3 e_p3 h => ?_)
        refine vg_cS (pc := 53) (As := [V (g S (tgt (tgt (tgt c0 0) 1) 2) a1.toNat), V a2]) (rest := []) (mc' := 0) (ms' := 0) (dK D_Plan_layReason_0 31 rfl) K_Plan_146 (fitK rfl) rfl (leK rfl) (leK rfl) (leK rfl) (tf_Plan_isWrongSide (g_in _ _ _) ha2 e_p3) (kcB ?_)
        refine vg_ifB_eq (pc := 56) (b := p3) (t := 63) (dK D_Plan_layReason_0 32 rfl) rfl (fun hc4 => ?_) (fun hc4 => ?_)
        · replace h := ifP h hc4
          refine vg_iconst (pc := 59) (dK D_Plan_layReason_0 33 rfl) ?_
          refine g_goto (pc := 60) (tgt := 64) (dK D_Plan_layReason_0 34 rfl) rfl ?_
          refine g_istore (pc := 64) (ls2 := [(4, V 5), (3, V (g S (tgt (tgt (tgt c0 0) 1) 0) a1.toNat)), (0, .ref c0), (1, V a1), (2, V a2)]) (dK D_Plan_layReason_0 36 rfl) (ltK rfl) rfl ?_
          refine vg_iconst (pc := 66) (dK D_Plan_layReason_0 37 rfl) ?_
          refine g_istore (pc := 67) (ls2 := [(5, V 0), (4, V 5), (3, V (g S (tgt (tgt (tgt c0 0) 1) 0) a1.toNat)), (0, .ref c0), (1, V a1), (2, V a2)]) (dK D_Plan_layReason_0 38 rfl) (ltK rfl) rfl ?_
          refine bnE h (fun p11 e_p11 h => ?_)
          refine gL_weak (ls' := [(0, .ref c0), (1, V a1), (2, V a2), (3, V (g S (tgt (tgt (tgt c0 0) 1) 0) a1.toNat)), (4, V 5), (5, V 0)]) (sbc 3 rfl (sbc 4 rfl (sbc 5 rfl (sbc 2 rfl (sbc 1 rfl (sbc 0 rfl sbn)))))) ?_
          refine tl_Plan_layReason_69 hc0 ha1 ha2 (g_in _ _ _) (fun hx4_p11 => ?_) FU (5, 0) e_p11 (inRk rfl) (inRk rfl)
          refine g_iload (pc := 97) (j := 0) (dK D_Plan_layReason_1 3 rfl) rfl ?_
          exact vg_iretI (pc := 99) (r := p11) (dK D_Plan_layReason_1 4 rfl) rfl (leK rfl) (leK rfl) (fun _ => rfl) (by obtain rfl := Option.some.inj h; exact ⟨rfl, hx4_p11, rfl⟩)
        · replace h := ifN h hc4
          refine vg_iconst (pc := 63) (dK D_Plan_layReason_0 35 rfl) ?_
          refine g_istore (pc := 64) (ls2 := [(4, V 0), (3, V (g S (tgt (tgt (tgt c0 0) 1) 0) a1.toNat)), (0, .ref c0), (1, V a1), (2, V a2)]) (dK D_Plan_layReason_0 36 rfl) (ltK rfl) rfl ?_
          refine vg_iconst (pc := 66) (dK D_Plan_layReason_0 37 rfl) ?_
          refine g_istore (pc := 67) (ls2 := [(5, V 0), (4, V 0), (3, V (g S (tgt (tgt (tgt c0 0) 1) 0) a1.toNat)), (0, .ref c0), (1, V a1), (2, V a2)]) (dK D_Plan_layReason_0 38 rfl) (ltK rfl) rfl ?_
          refine bnE h (fun p10 e_p10 h => ?_)
          refine gL_weak (ls' := [(0, .ref c0), (1, V a1), (2, V a2), (3, V (g S (tgt (tgt (tgt c0 0) 1) 0) a1.toNat)), (4, V 0), (5, V 0)]) (sbc 3 rfl (sbc 4 rfl (sbc 5 rfl (sbc 2 rfl (sbc 1 rfl (sbc 0 rfl sbn)))))) ?_
          refine tl_Plan_layReason_69 hc0 ha1 ha2 (g_in _ _ _) (fun hx4_p10 => ?_) FU (0, 0) e_p10 (inRk rfl) (inRk rfl)
          refine g_iload (pc := 97) (j := 0) (dK D_Plan_layReason_1 3 rfl) rfl ?_
          exact vg_iretI (pc := 99) (r := p10) (dK D_Plan_layReason_1 4 rfl) rfl (leK rfl) (leK rfl) (fun _ => rfl) (by obtain rfl := Option.some.inj h; exact ⟨rfl, hx4_p10, rfl⟩)
      · replace h := ifN h hc12
        refine vg_iconst (pc := 38) (dK D_Plan_layReason_0 22 rfl) ?_
        exact vg_iretI (pc := 39) (r := 1) (dK D_Plan_layReason_0 23 rfl) rfl (leK rfl) (leK rfl) (fun _ => rfl) (by obtain rfl := Option.some.inj h; exact ⟨rfl, (inRk rfl), rfl⟩)
def fn_Reader_readLay (c0 : Nat) (S : St) : Option (Bool × St) := nm (wr ((g S (tgt (tgt (tgt c0 1) 0) 1) 5) - 1)) fun v1 => bnO (fn_Reader_readNumber c0 0 0 v1 S) fun p2 => if p2.1 = true then (bnO (fn_Reader_readNumber c0 1 1 (g p2.2 (tgt c0 1) 1) p2.2) fun p4 => if p4.1 = true then (if 0 ≤ (g p4.2 (tgt c0 2) 0) ∧ (g p4.2 (tgt c0 2) 0) < 10 then (if (g p4.2 (tgt (tgt (tgt (tgt c0 1) 0) 1) 4) (((g p4.2 (tgt c0 2) 0)).toNat)) = 0 then (bnO (fn_Plan_layReason (tgt c0 1) (g p4.2 (tgt c0 2) 0) (g p4.2 (tgt c0 2) 1) p4.2) fun p8 => if p8 = 0 then (nm (u p4.2 (tgt (tgt (tgt (tgt c0 1) 0) 1) 4) (((g p4.2 (tgt c0 2) 0)).toNat) (g p4.2 (tgt c0 2) 1)) fun S9 => bnO (fn_Plan_recount (tgt c0 1) S9) fun p10 => bnO (fn_Reader_readSemicolon c0 p10) fun p11 => some (p11.1, p11.2)) else (bnO (fn_Reader_fail c0 4 p4.2) fun p12 => some (p12.1, p12.2))) else (bnO (fn_Reader_fail c0 4 p4.2) fun p7 => some (p7.1, p7.2))) else none) else (some (false, p4.2))) else (some (false, p2.2))
theorem tf_Reader_readLay {E : EV} {X : XT} {c0 : Nat} (hc0 : HC X 5 c0) {S : St} {q : Bool × St} (h : fn_Reader_readLay c0 S = some q) : Ev E M_Reader_readLay [.ref c0] (WX X S) 0 0 (KB X q.1 q.2) := by
  refine Ev.of pn_Reader rfl (leK rfl) ?_
  show Go E M_Reader_readLay 0 0 0 [(0, .ref c0)] [] (WX X S) 0 0 (KB X q.1 q.2)
  unfold fn_Reader_readLay at h
  refine g_aloadn (pc := 0) (i0 := 0) (j := 0) (dK D_Reader_readLay_0 0 rfl) rfl rfl ?_
  refine vg_getO (pc := 1) (ci := 5) (f := 1) (dK D_Reader_readLay_0 1 rfl) q_333 hc0 (ltK rfl) (ltK rfl) rfl ?_
  refine vg_getO (pc := 4) (ci := 4) (f := 0) (dK D_Reader_readLay_0 2 rfl) q_293 (hw_5_1 hc0) (ltK rfl) (ltK rfl) rfl ?_
  refine vg_getO (pc := 7) (ci := 8) (f := 1) (dK D_Reader_readLay_0 3 rfl) q_228 (hw_4_0 (hw_5_1 hc0)) (ltK rfl) (ltK rfl) rfl ?_
  refine g_astoren (pc := 10) (i0 := 1) (ls2 := [(1, .ref (tgt (tgt (tgt c0 1) 0) 1)), (0, .ref c0)]) (dK D_Reader_readLay_0 4 rfl) rfl (ltK rfl) rfl ?_
  refine g_aloadn (pc := 11) (i0 := 0) (j := 1) (dK D_Reader_readLay_0 5 rfl) rfl rfl ?_
  refine vg_iconst (pc := 12) (dK D_Reader_readLay_0 6 rfl) ?_
  refine vg_iconst (pc := 13) (dK D_Reader_readLay_0 7 rfl) ?_
  refine g_aloadn (pc := 14) (i0 := 1) (j := 0) (dK D_Reader_readLay_0 8 rfl) rfl rfl ?_
  refine vg_getI (pc := 15) (ci := 9) (f := 5) (dK D_Reader_readLay_0 9 rfl) q_156 (hw_8_1 (hw_4_0 (hw_5_1 hc0))) (ltK rfl) (ltK rfl) rfl ?_
  refine vg_iconst (pc := 18) (dK D_Reader_readLay_0 10 rfl) ?_
  refine vg_isub (pc := 19) (dK D_Reader_readLay_0 11 rfl) ?_
  refine nmE h (fun v1 e_v1 h => ?_)
  refine gtop e_v1 ?_
  refine bnE h (fun p2 e_p2 h => ?_)
  refine vg_cV (pc := 20) (As := [V 0, V 0, V v1]) (rest := []) (mc' := 0) (ms' := 0) (dK D_Reader_readLay_0 12 rfl) K_Reader_64 (fitK rfl) (ltK rfl) hc0 rfl (leK rfl) (leK rfl) (leK rfl) (tf_Reader_readNumber hc0 (inRk rfl) (inRk rfl) (Vn_in e_v1) e_p2) (kcB ?_)
  refine vg_ifB_eq (pc := 23) (b := p2.1) (t := 42) (dK D_Reader_readLay_0 13 rfl) rfl (fun hc3 => ?_) (fun hc3 => ?_)
  · replace h := ifP h hc3
    refine g_aloadn (pc := 26) (i0 := 0) (j := 1) (dK D_Reader_readLay_0 14 rfl) rfl rfl ?_
    refine vg_iconst (pc := 27) (dK D_Reader_readLay_0 15 rfl) ?_
    refine vg_iconst (pc := 28) (dK D_Reader_readLay_0 16 rfl) ?_
    refine g_aloadn (pc := 29) (i0 := 0) (j := 1) (dK D_Reader_readLay_0 17 rfl) rfl rfl ?_
    refine vg_getO (pc := 30) (ci := 5) (f := 1) (dK D_Reader_readLay_0 18 rfl) q_333 hc0 (ltK rfl) (ltK rfl) rfl ?_
    refine vg_getI (pc := 33) (ci := 4) (f := 1) (dK D_Reader_readLay_0 19 rfl) q_297 (hw_5_1 hc0) (ltK rfl) (ltK rfl) rfl ?_
    refine bnE h (fun p4 e_p4 h => ?_)
    refine vg_cV (pc := 36) (As := [V 1, V 1, V (g p2.2 (tgt c0 1) 1)]) (rest := []) (mc' := 0) (ms' := 0) (dK D_Reader_readLay_0 20 rfl) K_Reader_64 (fitK rfl) (ltK rfl) hc0 rfl (leK rfl) (leK rfl) (leK rfl) (tf_Reader_readNumber hc0 (inRk rfl) (inRk rfl) (g_in _ _ _) e_p4) (kcB ?_)
    refine vg_ifB_ne (pc := 39) (b := p4.1) (t := 44) (dK D_Reader_readLay_0 21 rfl) rfl (fun hc5 => ?_) (fun hc5 => ?_)
    · replace h := ifP h hc5
      refine g_aloadn (pc := 44) (i0 := 1) (j := 0) (dK D_Reader_readLay_0 24 rfl) rfl rfl ?_
      refine vg_getA (pc := 45) (ci := 9) (f := 4) (dK D_Reader_readLay_0 25 rfl) q_152 (hw_8_1 (hw_4_0 (hw_5_1 hc0))) (ltK rfl) (ltK rfl) rfl ?_
      refine g_aloadn (pc := 48) (i0 := 0) (j := 1) (dK D_Reader_readLay_0 26 rfl) rfl rfl ?_
      refine vg_getA (pc := 49) (ci := 5) (f := 2) (dK D_Reader_readLay_0 27 rfl) q_335 hc0 (ltK rfl) (ltK rfl) rfl ?_
      refine vg_iconst (pc := 52) (dK D_Reader_readLay_0 28 rfl) ?_
      refine vg_iaload (pc := 53) (j := 0) (dK D_Reader_readLay_0 29 rfl) (hw_5_2 hc0) rfl ⟨by decide, by decide⟩ rfl ?_
      refine gdE h (fun hi6 h => ?_)
      refine vg_iaload (pc := 54) (j := ((g p4.2 (tgt c0 2) 0)).toNat) (dK D_Reader_readLay_0 30 rfl) (hw_9_4 (hw_8_1 (hw_4_0 (hw_5_1 hc0)))) rfl hi6 rfl ?_
      refine vg_if_ne (pc := 55) (t := 80) (dK D_Reader_readLay_0 31 rfl) rfl (g_in _ _ _) (fun hc14 => ?_) (fun hc14 => ?_)
      · replace h := ifN h hc14
        refine g_aloadn (pc := 80) (i0 := 0) (j := 1) (dK D_Reader_readLay_0 44 rfl) rfl rfl ?_
        refine vg_iconst (pc := 81) (dK D_Reader_readLay_0 45 rfl) ?_
        refine bnE h (fun p7 e_p7 h => ?_)
        refine vg_cV (pc := 82) (As := [V 4]) (rest := []) (mc' := 0) (ms' := 0) (dK D_Reader_readLay_0 46 rfl) K_Reader_68 (fitK rfl) (ltK rfl) hc0 rfl (leK rfl) (leK rfl) (leK rfl) (tf_Reader_fail hc0 (inRk rfl) e_p7) (kcB ?_)
        exact vg_iretB (pc := 85) (b := p7.1) (dK D_Reader_readLay_0 47 rfl) rfl (leK rfl) (leK rfl) (fun _ => rfl) (by obtain rfl := Option.some.inj h; exact ⟨rfl, rfl⟩)
      · replace h := ifP h hc14
        refine g_aloadn (pc := 58) (i0 := 0) (j := 1) (dK D_Reader_readLay_0 32 rfl) rfl rfl ?_
        refine vg_getO (pc := 59) (ci := 5) (f := 1) (dK D_Reader_readLay_0 33 rfl) q_333 hc0 (ltK rfl) (ltK rfl) rfl ?_
        refine g_aloadn (pc := 62) (i0 := 0) (j := 1) (dK D_Reader_readLay_0 34 rfl) rfl rfl ?_
        refine vg_getA (pc := 63) (ci := 5) (f := 2) (dK D_Reader_readLay_0 35 rfl) q_335 hc0 (ltK rfl) (ltK rfl) rfl ?_
        refine vg_iconst (pc := 66) (dK D_Reader_readLay_0 36 rfl) ?_
        refine vg_iaload (pc := 67) (j := 0) (dK D_Reader_readLay_0 37 rfl) (hw_5_2 hc0) rfl ⟨by decide, by decide⟩ rfl ?_
        refine g_aloadn (pc := 68) (i0 := 0) (j := 1) (dK D_Reader_readLay_0 38 rfl) rfl rfl ?_
        refine vg_getA (pc := 69) (ci := 5) (f := 2) (dK D_Reader_readLay_0 39 rfl) q_335 hc0 (ltK rfl) (ltK rfl) rfl ?_
        refine vg_iconst (pc := 72) (dK D_Reader_readLay_0 40 rfl) ?_
        refine vg_iaload (pc := 73) (j := 1) (dK D_Reader_readLay_0 41 rfl) (hw_5_2 hc0) rfl ⟨by decide, by decide⟩ rfl ?_
        refine bnE h (fun p8 e_p8 h => ?_)
        refine vg_cV (pc := 74) (As := [V (g p4.2 (tgt c0 2) 0), V (g p4.2 (tgt c0 2) 1)]) (rest := []) (mc' := 0) (ms' := 0) (dK D_Reader_readLay_0 42 rfl) K_Reader_182 (fitK rfl) (ltK rfl) (hw_5_1 hc0) rfl (leK rfl) (leK rfl) (leK rfl) (tf_Plan_layReason (hw_5_1 hc0) (g_in _ _ _) (g_in _ _ _) e_p8) (kcI (fun h_p8 => ?_))
        refine vg_if_eq (pc := 77) (t := 86) (dK D_Reader_readLay_0 43 rfl) rfl h_p8 (fun hc13 => ?_) (fun hc13 => ?_)
        · replace h := ifP h hc13
          refine g_aloadn (pc := 86) (i0 := 1) (j := 0) (dK D_Reader_readLay_0 48 rfl) rfl rfl ?_
          refine vg_getA (pc := 87) (ci := 9) (f := 4) (dK D_Reader_readLay_0 49 rfl) q_152 (hw_8_1 (hw_4_0 (hw_5_1 hc0))) (ltK rfl) (ltK rfl) rfl ?_
          refine g_aloadn (pc := 90) (i0 := 0) (j := 1) (dK D_Reader_readLay_1 0 rfl) rfl rfl ?_
          refine vg_getA (pc := 91) (ci := 5) (f := 2) (dK D_Reader_readLay_1 1 rfl) q_335 hc0 (ltK rfl) (ltK rfl) rfl ?_
          refine vg_iconst (pc := 94) (dK D_Reader_readLay_1 2 rfl) ?_
          refine vg_iaload (pc := 95) (j := 0) (dK D_Reader_readLay_1 3 rfl) (hw_5_2 hc0) rfl ⟨by decide, by decide⟩ rfl ?_
          refine g_aloadn (pc := 96) (i0 := 0) (j := 1) (dK D_Reader_readLay_1 4 rfl) rfl rfl ?_
          refine vg_getA (pc := 97) (ci := 5) (f := 2) (dK D_Reader_readLay_1 5 rfl) q_335 hc0 (ltK rfl) (ltK rfl) rfl ?_
          refine vg_iconst (pc := 100) (dK D_Reader_readLay_1 6 rfl) ?_
          refine vg_iaload (pc := 101) (j := 1) (dK D_Reader_readLay_1 7 rfl) (hw_5_2 hc0) rfl ⟨by decide, by decide⟩ rfl ?_
          refine nmE h (fun S9 e_S9 h => ?_)
          refine vg_iastore (pc := 102) (z := (g p4.2 (tgt c0 2) 1)) (dK D_Reader_readLay_1 8 rfl) (hw_9_4 (hw_8_1 (hw_4_0 (hw_5_1 hc0)))) rfl hi6 rfl e_S9 ?_
          refine g_aloadn (pc := 103) (i0 := 0) (j := 1) (dK D_Reader_readLay_1 9 rfl) rfl rfl ?_
          refine vg_getO (pc := 104) (ci := 5) (f := 1) (dK D_Reader_readLay_1 10 rfl) q_333 hc0 (ltK rfl) (ltK rfl) rfl ?_
          refine bnE h (fun p10 e_p10 h => ?_)
          refine vg_cV (pc := 107) (As := []) (rest := []) (mc' := 0) (ms' := 0) (dK D_Reader_readLay_1 11 rfl) K_Reader_178 (fitK rfl) (ltK rfl) (hw_5_1 hc0) rfl (leK rfl) (leK rfl) (leK rfl) (tf_Plan_recount (hw_5_1 hc0) e_p10) (kcU ?_)
          refine g_aloadn (pc := 110) (i0 := 0) (j := 1) (dK D_Reader_readLay_1 12 rfl) rfl rfl ?_
          refine bnE h (fun p11 e_p11 h => ?_)
          refine vg_cV (pc := 111) (As := []) (rest := []) (mc' := 0) (ms' := 0) (dK D_Reader_readLay_1 13 rfl) K_Reader_72 (fitK rfl) (ltK rfl) hc0 rfl (leK rfl) (leK rfl) (leK rfl) (tf_Reader_readSemicolon hc0 e_p11) (kcB ?_)
          exact vg_iretB (pc := 114) (b := p11.1) (dK D_Reader_readLay_1 14 rfl) rfl (leK rfl) (leK rfl) (fun _ => rfl) (by obtain rfl := Option.some.inj h; exact ⟨rfl, rfl⟩)
        · replace h := ifN h hc13
          refine g_aloadn (pc := 80) (i0 := 0) (j := 1) (dK D_Reader_readLay_0 44 rfl) rfl rfl ?_
          refine vg_iconst (pc := 81) (dK D_Reader_readLay_0 45 rfl) ?_
          refine bnE h (fun p12 e_p12 h => ?_)
          refine vg_cV (pc := 82) (As := [V 4]) (rest := []) (mc' := 0) (ms' := 0) (dK D_Reader_readLay_0 46 rfl) K_Reader_68 (fitK rfl) (ltK rfl) hc0 rfl (leK rfl) (leK rfl) (leK rfl) (tf_Reader_fail hc0 (inRk rfl) e_p12) (kcB ?_)
          exact vg_iretB (pc := 85) (b := p12.1) (dK D_Reader_readLay_0 47 rfl) rfl (leK rfl) (leK rfl) (fun _ => rfl) (by obtain rfl := Option.some.inj h; exact ⟨rfl, rfl⟩)
    · replace h := ifN h hc5
      refine vg_iconst (pc := 42) (dK D_Reader_readLay_0 22 rfl) ?_
      exact vg_iretB (pc := 43) (b := false) (dK D_Reader_readLay_0 23 rfl) rfl (leK rfl) (leK rfl) (fun _ => rfl) (by obtain rfl := Option.some.inj h; exact ⟨rfl, rfl⟩)
  · replace h := ifN h hc3
    refine vg_iconst (pc := 42) (dK D_Reader_readLay_0 22 rfl) ?_
    exact vg_iretB (pc := 43) (b := false) (dK D_Reader_readLay_0 23 rfl) rfl (leK rfl) (leK rfl) (fun _ => rfl) (by obtain rfl := Option.some.inj h; exact ⟨rfl, rfl⟩)
def fn_Reader_readStatement (c0 : Nat) (S : St) : Option (Bool × St) := bnO (fn_Reader_isWord c0 1 S) fun p1 => if p1 = true then (bnO (fn_Reader_readColor c0 S) fun p22 => some (p22.1, p22.2)) else (bnO (fn_Reader_isWord c0 2 S) fun p3 => if p3 = true then (bnO (fn_Reader_readAd c0 S) fun p21 => some (p21.1, p21.2)) else (bnO (fn_Reader_isWord c0 3 S) fun p5 => if p5 = true then (bnO (fn_Reader_readStory c0 S) fun p20 => some (p20.1, p20.2)) else (bnO (fn_Reader_isWord c0 4 S) fun p7 => if p7 = true then (bnO (fn_Reader_readStandby c0 S) fun p19 => some (p19.1, p19.2)) else (bnO (fn_Reader_isWord c0 5 S) fun p9 => if p9 = true then (bnO (fn_Reader_readClose c0 S) fun p18 => some (p18.1, p18.2)) else (bnO (fn_Reader_isWord c0 6 S) fun p11 => if p11 = true then (bnO (fn_Reader_readPut c0 S) fun p17 => some (p17.1, p17.2)) else (bnO (fn_Reader_isWord c0 7 S) fun p13 => if p13 = true then (bnO (fn_Reader_readLay c0 S) fun p16 => some (p16.1, p16.2)) else (bnO (fn_Reader_fail c0 1 S) fun p15 => some (p15.1, p15.2))))))))
theorem tf_Reader_readStatement {E : EV} {X : XT} {c0 : Nat} (hc0 : HC X 5 c0) {S : St} {q : Bool × St} (h : fn_Reader_readStatement c0 S = some q) : Ev E M_Reader_readStatement [.ref c0] (WX X S) 0 0 (KB X q.1 q.2) := by
  refine Ev.of pn_Reader rfl (leK rfl) ?_
  show Go E M_Reader_readStatement 0 0 0 [(0, .ref c0)] [] (WX X S) 0 0 (KB X q.1 q.2)
  unfold fn_Reader_readStatement at h
  refine g_aloadn (pc := 0) (i0 := 0) (j := 0) (dK D_Reader_readStatement_0 0 rfl) rfl rfl ?_
  refine g_ldcS (pc := 1) (j := 1) rfl (dK D_Reader_readStatement_0 1 rfl) (List.mem_of_getElem? (i := 1) rfl) ?_
  refine bnE h (fun p1 e_p1 h => ?_)
  refine vg_cV (pc := 3) (As := [.ref (XB + 1)]) (rest := []) (mc' := 0) (ms' := 0) (dK D_Reader_readStatement_0 2 rfl) K_Reader_50 (fitK rfl) (ltK rfl) hc0 rfl (leK rfl) (leK rfl) (leK rfl) (tf_Reader_isWord hc0 (ltK rfl) e_p1) (kcB ?_)
  refine vg_ifB_eq (pc := 6) (b := p1) (t := 14) (dK D_Reader_readStatement_0 3 rfl) rfl (fun hc2 => ?_) (fun hc2 => ?_)
  · replace h := ifP h hc2
    refine g_aloadn (pc := 9) (i0 := 0) (j := 0) (dK D_Reader_readStatement_0 4 rfl) rfl rfl ?_
    refine bnE h (fun p22 e_p22 h => ?_)
    refine vg_cV (pc := 10) (As := []) (rest := []) (mc' := 0) (ms' := 0) (dK D_Reader_readStatement_0 5 rfl) K_Reader_77 (fitK rfl) (ltK rfl) hc0 rfl (leK rfl) (leK rfl) (leK rfl) (tf_Reader_readColor hc0 e_p22) (kcB ?_)
    exact vg_iretB (pc := 13) (b := p22.1) (dK D_Reader_readStatement_0 6 rfl) rfl (leK rfl) (leK rfl) (fun _ => rfl) (by obtain rfl := Option.some.inj h; exact ⟨rfl, rfl⟩)
  · replace h := ifN h hc2
    refine g_aloadn (pc := 14) (i0 := 0) (j := 0) (dK D_Reader_readStatement_0 7 rfl) rfl rfl ?_
    refine g_ldcS (pc := 15) (j := 2) rfl (dK D_Reader_readStatement_0 8 rfl) (List.mem_of_getElem? (i := 2) rfl) ?_
    refine bnE h (fun p3 e_p3 h => ?_)
    refine vg_cV (pc := 17) (As := [.ref (XB + 2)]) (rest := []) (mc' := 0) (ms' := 0) (dK D_Reader_readStatement_0 9 rfl) K_Reader_50 (fitK rfl) (ltK rfl) hc0 rfl (leK rfl) (leK rfl) (leK rfl) (tf_Reader_isWord hc0 (ltK rfl) e_p3) (kcB ?_)
    refine vg_ifB_eq (pc := 20) (b := p3) (t := 28) (dK D_Reader_readStatement_0 10 rfl) rfl (fun hc4 => ?_) (fun hc4 => ?_)
    · replace h := ifP h hc4
      refine g_aloadn (pc := 23) (i0 := 0) (j := 0) (dK D_Reader_readStatement_0 11 rfl) rfl rfl ?_
      refine bnE h (fun p21 e_p21 h => ?_)
      refine vg_cV (pc := 24) (As := []) (rest := []) (mc' := 0) (ms' := 0) (dK D_Reader_readStatement_0 12 rfl) K_Reader_82 (fitK rfl) (ltK rfl) hc0 rfl (leK rfl) (leK rfl) (leK rfl) (tf_Reader_readAd hc0 e_p21) (kcB ?_)
      exact vg_iretB (pc := 27) (b := p21.1) (dK D_Reader_readStatement_0 13 rfl) rfl (leK rfl) (leK rfl) (fun _ => rfl) (by obtain rfl := Option.some.inj h; exact ⟨rfl, rfl⟩)
    · replace h := ifN h hc4
      refine g_aloadn (pc := 28) (i0 := 0) (j := 0) (dK D_Reader_readStatement_0 14 rfl) rfl rfl ?_
      refine g_ldcS (pc := 29) (j := 3) rfl (dK D_Reader_readStatement_0 15 rfl) (List.mem_of_getElem? (i := 3) rfl) ?_
      refine bnE h (fun p5 e_p5 h => ?_)
      refine vg_cV (pc := 31) (As := [.ref (XB + 3)]) (rest := []) (mc' := 0) (ms' := 0) (dK D_Reader_readStatement_0 16 rfl) K_Reader_50 (fitK rfl) (ltK rfl) hc0 rfl (leK rfl) (leK rfl) (leK rfl) (tf_Reader_isWord hc0 (ltK rfl) e_p5) (kcB ?_)
      refine vg_ifB_eq (pc := 34) (b := p5) (t := 42) (dK D_Reader_readStatement_0 17 rfl) rfl (fun hc6 => ?_) (fun hc6 => ?_)
      · replace h := ifP h hc6
        refine g_aloadn (pc := 37) (i0 := 0) (j := 0) (dK D_Reader_readStatement_0 18 rfl) rfl rfl ?_
        refine bnE h (fun p20 e_p20 h => ?_)
        refine vg_cV (pc := 38) (As := []) (rest := []) (mc' := 0) (ms' := 0) (dK D_Reader_readStatement_0 19 rfl) K_Reader_87 (fitK rfl) (ltK rfl) hc0 rfl (leK rfl) (leK rfl) (leK rfl) (tf_Reader_readStory hc0 e_p20) (kcB ?_)
        exact vg_iretB (pc := 41) (b := p20.1) (dK D_Reader_readStatement_0 20 rfl) rfl (leK rfl) (leK rfl) (fun _ => rfl) (by obtain rfl := Option.some.inj h; exact ⟨rfl, rfl⟩)
      · replace h := ifN h hc6
        refine g_aloadn (pc := 42) (i0 := 0) (j := 0) (dK D_Reader_readStatement_0 21 rfl) rfl rfl ?_
        refine g_ldcS (pc := 43) (j := 4) rfl (dK D_Reader_readStatement_0 22 rfl) (List.mem_of_getElem? (i := 4) rfl) ?_
        refine bnE h (fun p7 e_p7 h => ?_)
        refine vg_cV (pc := 45) (As := [.ref (XB + 4)]) (rest := []) (mc' := 0) (ms' := 0) (dK D_Reader_readStatement_0 23 rfl) K_Reader_50 (fitK rfl) (ltK rfl) hc0 rfl (leK rfl) (leK rfl) (leK rfl) (tf_Reader_isWord hc0 (ltK rfl) e_p7) (kcB ?_)
        refine vg_ifB_eq (pc := 48) (b := p7) (t := 56) (dK D_Reader_readStatement_0 24 rfl) rfl (fun hc8 => ?_) (fun hc8 => ?_)
        · replace h := ifP h hc8
          refine g_aloadn (pc := 51) (i0 := 0) (j := 0) (dK D_Reader_readStatement_0 25 rfl) rfl rfl ?_
          refine bnE h (fun p19 e_p19 h => ?_)
          refine vg_cV (pc := 52) (As := []) (rest := []) (mc' := 0) (ms' := 0) (dK D_Reader_readStatement_0 26 rfl) K_Reader_92 (fitK rfl) (ltK rfl) hc0 rfl (leK rfl) (leK rfl) (leK rfl) (tf_Reader_readStandby hc0 e_p19) (kcB ?_)
          exact vg_iretB (pc := 55) (b := p19.1) (dK D_Reader_readStatement_0 27 rfl) rfl (leK rfl) (leK rfl) (fun _ => rfl) (by obtain rfl := Option.some.inj h; exact ⟨rfl, rfl⟩)
        · replace h := ifN h hc8
          refine g_aloadn (pc := 56) (i0 := 0) (j := 0) (dK D_Reader_readStatement_0 28 rfl) rfl rfl ?_
          refine g_ldcS (pc := 57) (j := 5) rfl (dK D_Reader_readStatement_0 29 rfl) (List.mem_of_getElem? (i := 5) rfl) ?_
          refine bnE h (fun p9 e_p9 h => ?_)
          refine vg_cV (pc := 59) (As := [.ref (XB + 5)]) (rest := []) (mc' := 0) (ms' := 0) (dK D_Reader_readStatement_0 30 rfl) K_Reader_50 (fitK rfl) (ltK rfl) hc0 rfl (leK rfl) (leK rfl) (leK rfl) (tf_Reader_isWord hc0 (ltK rfl) e_p9) (kcB ?_)
          refine vg_ifB_eq (pc := 62) (b := p9) (t := 70) (dK D_Reader_readStatement_0 31 rfl) rfl (fun hc10 => ?_) (fun hc10 => ?_)
          · replace h := ifP h hc10
            refine g_aloadn (pc := 65) (i0 := 0) (j := 0) (dK D_Reader_readStatement_0 32 rfl) rfl rfl ?_
            refine bnE h (fun p18 e_p18 h => ?_)
            refine vg_cV (pc := 66) (As := []) (rest := []) (mc' := 0) (ms' := 0) (dK D_Reader_readStatement_0 33 rfl) K_Reader_97 (fitK rfl) (ltK rfl) hc0 rfl (leK rfl) (leK rfl) (leK rfl) (tf_Reader_readClose hc0 e_p18) (kcB ?_)
            exact vg_iretB (pc := 69) (b := p18.1) (dK D_Reader_readStatement_0 34 rfl) rfl (leK rfl) (leK rfl) (fun _ => rfl) (by obtain rfl := Option.some.inj h; exact ⟨rfl, rfl⟩)
          · replace h := ifN h hc10
            refine g_aloadn (pc := 70) (i0 := 0) (j := 0) (dK D_Reader_readStatement_0 35 rfl) rfl rfl ?_
            refine g_ldcS (pc := 71) (j := 6) rfl (dK D_Reader_readStatement_0 36 rfl) (List.mem_of_getElem? (i := 6) rfl) ?_
            refine bnE h (fun p11 e_p11 h => ?_)
            refine vg_cV (pc := 73) (As := [.ref (XB + 6)]) (rest := []) (mc' := 0) (ms' := 0) (dK D_Reader_readStatement_0 37 rfl) K_Reader_50 (fitK rfl) (ltK rfl) hc0 rfl (leK rfl) (leK rfl) (leK rfl) (tf_Reader_isWord hc0 (ltK rfl) e_p11) (kcB ?_)
            refine vg_ifB_eq (pc := 76) (b := p11) (t := 84) (dK D_Reader_readStatement_0 38 rfl) rfl (fun hc12 => ?_) (fun hc12 => ?_)
            · replace h := ifP h hc12
              refine g_aloadn (pc := 79) (i0 := 0) (j := 0) (dK D_Reader_readStatement_0 39 rfl) rfl rfl ?_
              refine bnE h (fun p17 e_p17 h => ?_)
              refine vg_cV (pc := 80) (As := []) (rest := []) (mc' := 0) (ms' := 0) (dK D_Reader_readStatement_0 40 rfl) K_Reader_102 (fitK rfl) (ltK rfl) hc0 rfl (leK rfl) (leK rfl) (leK rfl) (tf_Reader_readPut hc0 e_p17) (kcB ?_)
              exact vg_iretB (pc := 83) (b := p17.1) (dK D_Reader_readStatement_0 41 rfl) rfl (leK rfl) (leK rfl) (fun _ => rfl) (by obtain rfl := Option.some.inj h; exact ⟨rfl, rfl⟩)
            · replace h := ifN h hc12
              refine g_aloadn (pc := 84) (i0 := 0) (j := 0) (dK D_Reader_readStatement_0 42 rfl) rfl rfl ?_
              refine g_ldcS (pc := 85) (j := 7) rfl (dK D_Reader_readStatement_0 43 rfl) (List.mem_of_getElem? (i := 7) rfl) ?_
              refine bnE h (fun p13 e_p13 h => ?_)
              refine vg_cV (pc := 87) (As := [.ref (XB + 7)]) (rest := []) (mc' := 0) (ms' := 0) (dK D_Reader_readStatement_0 44 rfl) K_Reader_50 (fitK rfl) (ltK rfl) hc0 rfl (leK rfl) (leK rfl) (leK rfl) (tf_Reader_isWord hc0 (ltK rfl) e_p13) (kcB ?_)
              refine vg_ifB_eq (pc := 90) (b := p13) (t := 100) (dK D_Reader_readStatement_0 45 rfl) rfl (fun hc14 => ?_) (fun hc14 => ?_)
              · replace h := ifP h hc14
                refine g_aloadn (pc := 93) (i0 := 0) (j := 0) (dK D_Reader_readStatement_0 46 rfl) rfl rfl ?_
                refine bnE h (fun p16 e_p16 h => ?_)
                refine vg_cV (pc := 94) (As := []) (rest := []) (mc' := 0) (ms' := 0) (dK D_Reader_readStatement_0 47 rfl) K_Reader_107 (fitK rfl) (ltK rfl) hc0 rfl (leK rfl) (leK rfl) (leK rfl) (tf_Reader_readLay hc0 e_p16) (kcB ?_)
                refine g_goto (pc := 97) (tgt := 105) (dK D_Reader_readStatement_0 48 rfl) rfl ?_
                exact vg_iretB (pc := 105) (b := p16.1) (dK D_Reader_readStatement_1 2 rfl) rfl (leK rfl) (leK rfl) (fun _ => rfl) (by obtain rfl := Option.some.inj h; exact ⟨rfl, rfl⟩)
              · replace h := ifN h hc14
                refine g_aloadn (pc := 100) (i0 := 0) (j := 0) (dK D_Reader_readStatement_0 49 rfl) rfl rfl ?_
                refine vg_iconst (pc := 101) (dK D_Reader_readStatement_1 0 rfl) ?_
                refine bnE h (fun p15 e_p15 h => ?_)
                refine vg_cV (pc := 102) (As := [V 1]) (rest := []) (mc' := 0) (ms' := 0) (dK D_Reader_readStatement_1 1 rfl) K_Reader_68 (fitK rfl) (ltK rfl) hc0 rfl (leK rfl) (leK rfl) (leK rfl) (tf_Reader_fail hc0 (inRk rfl) e_p15) (kcB ?_)
                exact vg_iretB (pc := 105) (b := p15.1) (dK D_Reader_readStatement_1 2 rfl) rfl (leK rfl) (leK rfl) (fun _ => rfl) (by obtain rfl := Option.some.inj h; exact ⟨rfl, rfl⟩)
def lb_Reader_readText_55 (c0 : Nat) (go : Int × Int × St → Option ((Int × St) ⊕ (Int × St))) (a1 : Int) (a2 : Int) (S : St) : Option ((Int × St) ⊕ (Int × St)) := if 1600 < a2 then (some (.inr (a1, S))) else (if (g S c0 4) = 0 then (some (.inr (a1, S))) else (bnO (fn_Reader_readStatement c0 S) fun p8 => if p8.1 = true then (nm (wr (a1 + 1)) fun v10 => bnO (fn_Reader_nextToken c0 p8.2) fun p11 => nm (wr (a2 + 1)) fun v12 => go (v10, v12, p11)) else (some (.inl ((-1), p8.2)))))
def lo_Reader_readText_55 (c0 : Nat) : Nat → Int × Int × St → Option ((Int × St) ⊕ (Int × St)) := lp fun go p => lb_Reader_readText_55 c0 go p.1 p.2.1 p.2.2
theorem tl_Reader_readText_55 {E : EV} {X : XT} {c0 : Nat} (hc0 : HC X 5 c0) {K : RK → PS → Prop} {q : (Int × St) ⊕ (Int × St)} (hx : ∀ p, q = .inr p → inR p.1 → Go E M_Reader_readText 0 0 91 [(1, V p.1)] [] (WX X p.2) 0 0 K) (hr : ∀ p, q = .inl p → inR p.1 → K (.inl (some (V p.1))) (WX X p.2)) : ∀ n a, lo_Reader_readText_55 c0 n a = some q → inR a.1 → inR a.2.1 → Go E M_Reader_readText 0 0 55 [(0, .ref c0), (1, V a.1), (2, V a.2.1)] [] (WX X a.2.2) 0 0 K := by
  refine lp_ind (P := fun a : Int × Int × St => inR a.1 → inR a.2.1 → Go E M_Reader_readText 0 0 55 [(0, .ref c0), (1, V a.1), (2, V a.2.1)] [] (WX X a.2.2) 0 0 K) (fun go ih a h => ?_)
  obtain ⟨a1, a2, S⟩ := a
  intro ha1 ha2
  show Go E M_Reader_readText 0 0 55 [(0, .ref c0), (1, V a1), (2, V a2)] [] (WX X S) 0 0 K
  replace h : lb_Reader_readText_55 c0 go a1 a2 S = some q := h
  unfold lb_Reader_readText_55 at h
  refine g_iloadn (pc := 55) (i0 := 2) (j := 2) (dK D_Reader_readText 31 rfl) rfl rfl ?_
  refine vg_sipush (pc := 56) (dK D_Reader_readText 32 rfl) rfl ?_
  refine vg_icmp_gt (pc := 59) (t := 91) (dK D_Reader_readText 33 rfl) rfl ha2 (inRk rfl) (fun hc14 => ?_) (fun hc14 => ?_)
  · replace h := ifP h hc14
    refine gL_weak (ls' := [(1, V a1)]) (sbc 1 rfl sbn) ?_
    exact hx _ (Option.some.inj h).symm ha1
  · replace h := ifN h hc14
    refine g_aloadn (pc := 62) (i0 := 0) (j := 0) (dK D_Reader_readText 34 rfl) rfl rfl ?_
    refine vg_getI (pc := 63) (ci := 5) (f := 4) (dK D_Reader_readText 35 rfl) q_337 hc0 (ltK rfl) (ltK rfl) rfl ?_
    refine vg_if_eq (pc := 66) (t := 91) (dK D_Reader_readText 36 rfl) rfl (g_in _ _ _) (fun hc13 => ?_) (fun hc13 => ?_)
    · replace h := ifP h hc13
      refine gL_weak (ls' := [(1, V a1)]) (sbc 1 rfl sbn) ?_
      exact hx _ (Option.some.inj h).symm ha1
    · replace h := ifN h hc13
      refine g_aloadn (pc := 69) (i0 := 0) (j := 0) (dK D_Reader_readText 37 rfl) rfl rfl ?_
      refine bnE h (fun p8 e_p8 h => ?_)
      refine vg_cV (pc := 70) (As := []) (rest := []) (mc' := 0) (ms' := 0) (dK D_Reader_readText 38 rfl) K_Reader_61 (fitK rfl) (ltK rfl) hc0 rfl (leK rfl) (leK rfl) (leK rfl) (tf_Reader_readStatement hc0 e_p8) (kcB ?_)
      refine vg_ifB_ne (pc := 73) (b := p8.1) (t := 78) (dK D_Reader_readText 39 rfl) rfl (fun hc9 => ?_) (fun hc9 => ?_)
      · replace h := ifP h hc9
        refine nmE h (fun v10 e_v10 h => ?_)
        refine vg_iinc (pc := 78) (j := 1) (a := a1) (z := 1) (ls2 := [(1, V v10), (0, .ref c0), (2, V a2)]) (dK D_Reader_readText 42 rfl) rfl e_v10 (ltK rfl) rfl ?_
        refine g_aloadn (pc := 81) (i0 := 0) (j := 1) (dK D_Reader_readText 43 rfl) rfl rfl ?_
        refine bnE h (fun p11 e_p11 h => ?_)
        refine vg_cV (pc := 82) (As := []) (rest := []) (mc' := 0) (ms' := 0) (dK D_Reader_readText 44 rfl) K_Reader_45 (fitK rfl) (ltK rfl) hc0 rfl (leK rfl) (leK rfl) (leK rfl) (tf_Reader_nextToken hc0 e_p11) (kcU ?_)
        refine nmE h (fun v12 e_v12 h => ?_)
        refine vg_iinc (pc := 85) (j := 2) (a := a2) (z := 1) (ls2 := [(2, V v12), (1, V v10), (0, .ref c0)]) (dK D_Reader_readText 45 rfl) rfl e_v12 (ltK rfl) rfl ?_
        refine g_goto (pc := 88) (tgt := 55) (dK D_Reader_readText 46 rfl) rfl ?_
        refine gL_weak (ls' := [(0, .ref c0), (1, V v10), (2, V v12)]) (sbc 2 rfl (sbc 1 rfl (sbc 0 rfl sbn))) ?_
        replace h := ih _ h
        exact h (Vn_in e_v10) (Vn_in e_v12)
      · replace h := ifN h hc9
        refine vg_iconst (pc := 76) (dK D_Reader_readText 40 rfl) ?_
        exact vg_iretI (pc := 77) (r := (-1)) (dK D_Reader_readText 41 rfl) rfl (leK rfl) (leK rfl) (fun _ => rfl) (hr _ (Option.some.inj h).symm (inRk rfl))
def fn_Reader_readText (c0 : Nat) (S : St) : Option (Int × St) := nm (u S c0 6 0) fun S1 => nm (u S1 c0 7 (-1)) fun S2 => nm (u S2 c0 3 0) fun S3 => bnO (fn_Plan_begin (tgt c0 1) 1 16 S3) fun p4 => bnO (fn_Reader_nextToken c0 p4) fun p5 => bnO (fn_Reader_isWord c0 0 p5) fun p6 => if p6 = true then (bnO (fn_Reader_readPlan c0 p5) fun p17 => if p17.1 = true then (bnO (fn_Reader_nextToken c0 p17.2) fun p19 => bnS (lo_Reader_readText_55 c0 FU (0, 0, p19)) (fun p21 => some (p21.1, p21.2)) fun p20 => some (p20.1, p20.2)) else (some ((-1), p17.2))) else (bnS (lo_Reader_readText_55 c0 FU (0, 0, p5)) (fun p16 => some (p16.1, p16.2)) fun p15 => some (p15.1, p15.2))
theorem tf_Reader_readText {E : EV} {X : XT} {c0 : Nat} (hc0 : HC X 5 c0) {S : St} {q : Int × St} (h : fn_Reader_readText c0 S = some q) : Ev E M_Reader_readText [.ref c0] (WX X S) 0 0 (KI X q.1 q.2) := by
  refine Ev.of pn_Reader rfl (leK rfl) ?_
  show Go E M_Reader_readText 0 0 0 [(0, .ref c0)] [] (WX X S) 0 0 (KI X q.1 q.2)
  unfold fn_Reader_readText at h
  refine g_aloadn (pc := 0) (i0 := 0) (j := 0) (dK D_Reader_readText 0 rfl) rfl rfl ?_
  refine vg_iconst (pc := 1) (dK D_Reader_readText 1 rfl) ?_
  refine nmE h (fun S1 e_S1 h => ?_)
  refine vg_putI (pc := 2) (ci := 5) (f := 6) (z := 0) (dK D_Reader_readText 2 rfl) q_339 hc0 (ltK rfl) (ltK rfl) rfl rfl e_S1 ?_
  refine g_aloadn (pc := 5) (i0 := 0) (j := 0) (dK D_Reader_readText 3 rfl) rfl rfl ?_
  refine vg_iconst (pc := 6) (dK D_Reader_readText 4 rfl) ?_
  refine nmE h (fun S2 e_S2 h => ?_)
  refine vg_putI (pc := 7) (ci := 5) (f := 7) (z := (-1)) (dK D_Reader_readText 5 rfl) q_341 hc0 (ltK rfl) (ltK rfl) rfl rfl e_S2 ?_
  refine g_aloadn (pc := 10) (i0 := 0) (j := 0) (dK D_Reader_readText 6 rfl) rfl rfl ?_
  refine vg_iconst (pc := 11) (dK D_Reader_readText 7 rfl) ?_
  refine nmE h (fun S3 e_S3 h => ?_)
  refine vg_putI (pc := 12) (ci := 5) (f := 3) (z := 0) (dK D_Reader_readText 8 rfl) q_336 hc0 (ltK rfl) (ltK rfl) rfl rfl e_S3 ?_
  refine g_aloadn (pc := 15) (i0 := 0) (j := 0) (dK D_Reader_readText 9 rfl) rfl rfl ?_
  refine vg_getO (pc := 16) (ci := 5) (f := 1) (dK D_Reader_readText 10 rfl) q_333 hc0 (ltK rfl) (ltK rfl) rfl ?_
  refine vg_iconst (pc := 19) (dK D_Reader_readText 11 rfl) ?_
  refine vg_bipush (pc := 20) (dK D_Reader_readText 12 rfl) rfl ?_
  refine bnE h (fun p4 e_p4 h => ?_)
  refine vg_cV (pc := 22) (As := [V 1, V 16]) (rest := []) (mc' := 0) (ms' := 0) (dK D_Reader_readText 13 rfl) K_Reader_41 (fitK rfl) (ltK rfl) (hw_5_1 hc0) rfl (leK rfl) (leK rfl) (leK rfl) (tf_Plan_begin (hw_5_1 hc0) (inRk rfl) (inRk rfl) e_p4) (kcU ?_)
  refine g_aloadn (pc := 25) (i0 := 0) (j := 0) (dK D_Reader_readText 14 rfl) rfl rfl ?_
  refine bnE h (fun p5 e_p5 h => ?_)
  refine vg_cV (pc := 26) (As := []) (rest := []) (mc' := 0) (ms' := 0) (dK D_Reader_readText 15 rfl) K_Reader_45 (fitK rfl) (ltK rfl) hc0 rfl (leK rfl) (leK rfl) (leK rfl) (tf_Reader_nextToken hc0 e_p5) (kcU ?_)
  refine g_aloadn (pc := 29) (i0 := 0) (j := 0) (dK D_Reader_readText 16 rfl) rfl rfl ?_
  refine g_ldcS (pc := 30) (j := 0) rfl (dK D_Reader_readText 17 rfl) (List.mem_of_getElem? (i := 0) rfl) ?_
  refine bnE h (fun p6 e_p6 h => ?_)
  refine vg_cV (pc := 32) (As := [.ref (XB + 0)]) (rest := []) (mc' := 0) (ms' := 0) (dK D_Reader_readText 18 rfl) K_Reader_50 (fitK rfl) (ltK rfl) hc0 rfl (leK rfl) (leK rfl) (leK rfl) (tf_Reader_isWord hc0 (ltK rfl) e_p6) (kcB ?_)
  refine vg_ifB_eq (pc := 35) (b := p6) (t := 51) (dK D_Reader_readText 19 rfl) rfl (fun hc7 => ?_) (fun hc7 => ?_)
  · replace h := ifP h hc7
    refine g_aloadn (pc := 38) (i0 := 0) (j := 0) (dK D_Reader_readText 20 rfl) rfl rfl ?_
    refine bnE h (fun p17 e_p17 h => ?_)
    refine vg_cV (pc := 39) (As := []) (rest := []) (mc' := 0) (ms' := 0) (dK D_Reader_readText 21 rfl) K_Reader_54 (fitK rfl) (ltK rfl) hc0 rfl (leK rfl) (leK rfl) (leK rfl) (tf_Reader_readPlan hc0 e_p17) (kcB ?_)
    refine vg_ifB_ne (pc := 42) (b := p17.1) (t := 47) (dK D_Reader_readText 22 rfl) rfl (fun hc18 => ?_) (fun hc18 => ?_)
    · replace h := ifP h hc18
      refine g_aloadn (pc := 47) (i0 := 0) (j := 0) (dK D_Reader_readText 25 rfl) rfl rfl ?_
      refine bnE h (fun p19 e_p19 h => ?_)
      refine vg_cV (pc := 48) (As := []) (rest := []) (mc' := 0) (ms' := 0) (dK D_Reader_readText 26 rfl) K_Reader_45 (fitK rfl) (ltK rfl) hc0 rfl (leK rfl) (leK rfl) (leK rfl) (tf_Reader_nextToken hc0 e_p19) (kcU ?_)
      refine vg_iconst (pc := 51) (dK D_Reader_readText 27 rfl) ?_
      refine g_istoren (pc := 52) (i0 := 1) (ls2 := [(1, V 0), (0, .ref c0)]) (dK D_Reader_readText 28 rfl) rfl (ltK rfl) rfl ?_
      refine vg_iconst (pc := 53) (dK D_Reader_readText 29 rfl) ?_
      refine g_istoren (pc := 54) (i0 := 2) (ls2 := [(2, V 0), (1, V 0), (0, .ref c0)]) (dK D_Reader_readText 30 rfl) rfl (ltK rfl) rfl ?_
      refine bnSE h (fun p21 e_p21 h => ?_) (fun p20 e_p20 h => ?_)
      · refine gL_weak (ls' := [(0, .ref c0), (1, V 0), (2, V 0)]) (sbc 2 rfl (sbc 1 rfl (sbc 0 rfl sbn))) ?_
        refine tl_Reader_readText_55 hc0 (fun _ e => slr e) (fun p e hr_p21 => ?_) FU (0, 0, p19) e_p21 (inRk rfl) (inRk rfl)
        have e := Sum.inl.inj e
        subst e
        exact (by obtain rfl := Option.some.inj h; exact ⟨rfl, hr_p21, rfl⟩)
      · refine gL_weak (ls' := [(0, .ref c0), (1, V 0), (2, V 0)]) (sbc 2 rfl (sbc 1 rfl (sbc 0 rfl sbn))) ?_
        refine tl_Reader_readText_55 hc0 (fun p e hx1_p20 => ?_) (fun _ e => srl e) FU (0, 0, p19) e_p20 (inRk rfl) (inRk rfl)
        have e := Sum.inr.inj e
        subst e
        refine g_iloadn (pc := 91) (i0 := 1) (j := 0) (dK D_Reader_readText 47 rfl) rfl rfl ?_
        exact vg_iretI (pc := 92) (r := p20.1) (dK D_Reader_readText 48 rfl) rfl (leK rfl) (leK rfl) (fun _ => rfl) (by obtain rfl := Option.some.inj h; exact ⟨rfl, hx1_p20, rfl⟩)
    · replace h := ifN h hc18
      refine vg_iconst (pc := 45) (dK D_Reader_readText 23 rfl) ?_
      exact vg_iretI (pc := 46) (r := (-1)) (dK D_Reader_readText 24 rfl) rfl (leK rfl) (leK rfl) (fun _ => rfl) (by obtain rfl := Option.some.inj h; exact ⟨rfl, (inRk rfl), rfl⟩)
  · replace h := ifN h hc7
    refine vg_iconst (pc := 51) (dK D_Reader_readText 27 rfl) ?_
    refine g_istoren (pc := 52) (i0 := 1) (ls2 := [(1, V 0), (0, .ref c0)]) (dK D_Reader_readText 28 rfl) rfl (ltK rfl) rfl ?_
    refine vg_iconst (pc := 53) (dK D_Reader_readText 29 rfl) ?_
    refine g_istoren (pc := 54) (i0 := 2) (ls2 := [(2, V 0), (1, V 0), (0, .ref c0)]) (dK D_Reader_readText 30 rfl) rfl (ltK rfl) rfl ?_
    refine bnSE h (fun p16 e_p16 h => ?_) (fun p15 e_p15 h => ?_)
    · refine gL_weak (ls' := [(0, .ref c0), (1, V 0), (2, V 0)]) (sbc 2 rfl (sbc 1 rfl (sbc 0 rfl sbn))) ?_
      refine tl_Reader_readText_55 hc0 (fun _ e => slr e) (fun p e hr_p16 => ?_) FU (0, 0, p5) e_p16 (inRk rfl) (inRk rfl)
      have e := Sum.inl.inj e
      subst e
      exact (by obtain rfl := Option.some.inj h; exact ⟨rfl, hr_p16, rfl⟩)
    · refine gL_weak (ls' := [(0, .ref c0), (1, V 0), (2, V 0)]) (sbc 2 rfl (sbc 1 rfl (sbc 0 rfl sbn))) ?_
      refine tl_Reader_readText_55 hc0 (fun p e hx1_p15 => ?_) (fun _ e => srl e) FU (0, 0, p5) e_p15 (inRk rfl) (inRk rfl)
      have e := Sum.inr.inj e
      subst e
      refine g_iloadn (pc := 91) (i0 := 1) (j := 0) (dK D_Reader_readText 47 rfl) rfl rfl ?_
      exact vg_iretI (pc := 92) (r := p15.1) (dK D_Reader_readText 48 rfl) rfl (leK rfl) (leK rfl) (fun _ => rfl) (by obtain rfl := Option.some.inj h; exact ⟨rfl, hx1_p15, rfl⟩)
def fn_Ads_copyFrom (c0 : Nat) (c1 : Nat) (S : St) : Option (St) := nm (cpI S (tgt c1 0) (tgt c0 0) 40) fun S1 => nm (cpI S1 (tgt c1 1) (tgt c0 1) 40) fun S2 => nm (cpI S2 (tgt c1 2) (tgt c0 2) 40) fun S3 => nm (cpI S3 (tgt c1 3) (tgt c0 3) 40) fun S4 => nm (cpI S4 (tgt c1 4) (tgt c0 4) 40) fun S5 => nm (cpI S5 (tgt c1 5) (tgt c0 5) 40) fun S6 => nm (cpI S6 (tgt c1 6) (tgt c0 6) 40) fun S7 => nm (u S7 c0 7 (g S7 c1 7)) fun S8 => some S8
theorem tf_Ads_copyFrom {E : EV} {X : XT} {c0 : Nat} (hc0 : HC X 0 c0) {c1 : Nat} (hc1 : HC X 0 c1) {S : St} {q : St} (h : fn_Ads_copyFrom c0 c1 S = some q) : Ev E M_Ads_copyFrom [.ref c0, .ref c1] (WX X S) 0 0 (KU X q) := by
  refine Ev.of pn_Ads rfl (leK rfl) ?_
  show Go E M_Ads_copyFrom 0 0 0 [(0, .ref c0), (1, .ref c1)] [] (WX X S) 0 0 (KU X q)
  unfold fn_Ads_copyFrom at h
  refine g_aloadn (pc := 0) (i0 := 1) (j := 1) (dK D_Ads_copyFrom_0 0 rfl) rfl rfl ?_
  refine vg_getA (pc := 1) (ci := 0) (f := 0) (dK D_Ads_copyFrom_0 1 rfl) q_76 hc1 (ltK rfl) (ltK rfl) rfl ?_
  refine vg_iconst (pc := 4) (dK D_Ads_copyFrom_0 2 rfl) ?_
  refine g_aloadn (pc := 5) (i0 := 0) (j := 0) (dK D_Ads_copyFrom_0 3 rfl) rfl rfl ?_
  refine vg_getA (pc := 6) (ci := 0) (f := 0) (dK D_Ads_copyFrom_0 4 rfl) q_76 hc0 (ltK rfl) (ltK rfl) rfl ?_
  refine vg_iconst (pc := 9) (dK D_Ads_copyFrom_0 5 rfl) ?_
  refine vg_bipush (pc := 10) (dK D_Ads_copyFrom_0 6 rfl) rfl ?_
  refine nmE h (fun S1 e_S1 h => ?_)
  refine vg_copy (pc := 12) (N := 40) (dK D_Ads_copyFrom_0 7 rfl) q_658 (leK rfl) (leK rfl) rfl (hw_0_0 hc1) (hw_0_0 hc0) e_S1 ?_
  refine g_aloadn (pc := 15) (i0 := 1) (j := 1) (dK D_Ads_copyFrom_0 8 rfl) rfl rfl ?_
  refine vg_getA (pc := 16) (ci := 0) (f := 1) (dK D_Ads_copyFrom_0 9 rfl) q_80 hc1 (ltK rfl) (ltK rfl) rfl ?_
  refine vg_iconst (pc := 19) (dK D_Ads_copyFrom_0 10 rfl) ?_
  refine g_aloadn (pc := 20) (i0 := 0) (j := 0) (dK D_Ads_copyFrom_0 11 rfl) rfl rfl ?_
  refine vg_getA (pc := 21) (ci := 0) (f := 1) (dK D_Ads_copyFrom_0 12 rfl) q_80 hc0 (ltK rfl) (ltK rfl) rfl ?_
  refine vg_iconst (pc := 24) (dK D_Ads_copyFrom_0 13 rfl) ?_
  refine vg_bipush (pc := 25) (dK D_Ads_copyFrom_0 14 rfl) rfl ?_
  refine nmE h (fun S2 e_S2 h => ?_)
  refine vg_copy (pc := 27) (N := 40) (dK D_Ads_copyFrom_0 15 rfl) q_658 (leK rfl) (leK rfl) rfl (hw_0_1 hc1) (hw_0_1 hc0) e_S2 ?_
  refine g_aloadn (pc := 30) (i0 := 1) (j := 1) (dK D_Ads_copyFrom_0 16 rfl) rfl rfl ?_
  refine vg_getA (pc := 31) (ci := 0) (f := 2) (dK D_Ads_copyFrom_0 17 rfl) q_83 hc1 (ltK rfl) (ltK rfl) rfl ?_
  refine vg_iconst (pc := 34) (dK D_Ads_copyFrom_0 18 rfl) ?_
  refine g_aloadn (pc := 35) (i0 := 0) (j := 0) (dK D_Ads_copyFrom_0 19 rfl) rfl rfl ?_
  refine vg_getA (pc := 36) (ci := 0) (f := 2) (dK D_Ads_copyFrom_0 20 rfl) q_83 hc0 (ltK rfl) (ltK rfl) rfl ?_
  refine vg_iconst (pc := 39) (dK D_Ads_copyFrom_0 21 rfl) ?_
  refine vg_bipush (pc := 40) (dK D_Ads_copyFrom_0 22 rfl) rfl ?_
  refine nmE h (fun S3 e_S3 h => ?_)
  refine vg_copy (pc := 42) (N := 40) (dK D_Ads_copyFrom_0 23 rfl) q_658 (leK rfl) (leK rfl) rfl (hw_0_2 hc1) (hw_0_2 hc0) e_S3 ?_
  refine g_aloadn (pc := 45) (i0 := 1) (j := 1) (dK D_Ads_copyFrom_0 24 rfl) rfl rfl ?_
  refine vg_getA (pc := 46) (ci := 0) (f := 3) (dK D_Ads_copyFrom_0 25 rfl) q_88 hc1 (ltK rfl) (ltK rfl) rfl ?_
  refine vg_iconst (pc := 49) (dK D_Ads_copyFrom_0 26 rfl) ?_
  refine g_aloadn (pc := 50) (i0 := 0) (j := 0) (dK D_Ads_copyFrom_0 27 rfl) rfl rfl ?_
  refine vg_getA (pc := 51) (ci := 0) (f := 3) (dK D_Ads_copyFrom_0 28 rfl) q_88 hc0 (ltK rfl) (ltK rfl) rfl ?_
  refine vg_iconst (pc := 54) (dK D_Ads_copyFrom_0 29 rfl) ?_
  refine vg_bipush (pc := 55) (dK D_Ads_copyFrom_0 30 rfl) rfl ?_
  refine nmE h (fun S4 e_S4 h => ?_)
  refine vg_copy (pc := 57) (N := 40) (dK D_Ads_copyFrom_0 31 rfl) q_658 (leK rfl) (leK rfl) rfl (hw_0_3 hc1) (hw_0_3 hc0) e_S4 ?_
  refine g_aloadn (pc := 60) (i0 := 1) (j := 1) (dK D_Ads_copyFrom_0 32 rfl) rfl rfl ?_
  refine vg_getA (pc := 61) (ci := 0) (f := 4) (dK D_Ads_copyFrom_0 33 rfl) q_92 hc1 (ltK rfl) (ltK rfl) rfl ?_
  refine vg_iconst (pc := 64) (dK D_Ads_copyFrom_0 34 rfl) ?_
  refine g_aloadn (pc := 65) (i0 := 0) (j := 0) (dK D_Ads_copyFrom_0 35 rfl) rfl rfl ?_
  refine vg_getA (pc := 66) (ci := 0) (f := 4) (dK D_Ads_copyFrom_0 36 rfl) q_92 hc0 (ltK rfl) (ltK rfl) rfl ?_
  refine vg_iconst (pc := 69) (dK D_Ads_copyFrom_0 37 rfl) ?_
  refine vg_bipush (pc := 70) (dK D_Ads_copyFrom_0 38 rfl) rfl ?_
  refine nmE h (fun S5 e_S5 h => ?_)
  refine vg_copy (pc := 72) (N := 40) (dK D_Ads_copyFrom_0 39 rfl) q_658 (leK rfl) (leK rfl) rfl (hw_0_4 hc1) (hw_0_4 hc0) e_S5 ?_
  refine g_aloadn (pc := 75) (i0 := 1) (j := 1) (dK D_Ads_copyFrom_0 40 rfl) rfl rfl ?_
  refine vg_getA (pc := 76) (ci := 0) (f := 5) (dK D_Ads_copyFrom_0 41 rfl) q_96 hc1 (ltK rfl) (ltK rfl) rfl ?_
  refine vg_iconst (pc := 79) (dK D_Ads_copyFrom_0 42 rfl) ?_
  refine g_aloadn (pc := 80) (i0 := 0) (j := 0) (dK D_Ads_copyFrom_0 43 rfl) rfl rfl ?_
  refine vg_getA (pc := 81) (ci := 0) (f := 5) (dK D_Ads_copyFrom_0 44 rfl) q_96 hc0 (ltK rfl) (ltK rfl) rfl ?_
  refine vg_iconst (pc := 84) (dK D_Ads_copyFrom_0 45 rfl) ?_
  refine vg_bipush (pc := 85) (dK D_Ads_copyFrom_0 46 rfl) rfl ?_
  refine nmE h (fun S6 e_S6 h => ?_)
  refine vg_copy (pc := 87) (N := 40) (dK D_Ads_copyFrom_0 47 rfl) q_658 (leK rfl) (leK rfl) rfl (hw_0_5 hc1) (hw_0_5 hc0) e_S6 ?_
  refine g_aloadn (pc := 90) (i0 := 1) (j := 1) (dK D_Ads_copyFrom_0 48 rfl) rfl rfl ?_
  refine vg_getA (pc := 91) (ci := 0) (f := 6) (dK D_Ads_copyFrom_0 49 rfl) q_100 hc1 (ltK rfl) (ltK rfl) rfl ?_
  refine vg_iconst (pc := 94) (dK D_Ads_copyFrom_1 0 rfl) ?_
  refine g_aloadn (pc := 95) (i0 := 0) (j := 0) (dK D_Ads_copyFrom_1 1 rfl) rfl rfl ?_
  refine vg_getA (pc := 96) (ci := 0) (f := 6) (dK D_Ads_copyFrom_1 2 rfl) q_100 hc0 (ltK rfl) (ltK rfl) rfl ?_
  refine vg_iconst (pc := 99) (dK D_Ads_copyFrom_1 3 rfl) ?_
  refine vg_bipush (pc := 100) (dK D_Ads_copyFrom_1 4 rfl) rfl ?_
  refine nmE h (fun S7 e_S7 h => ?_)
  refine vg_copy (pc := 102) (N := 40) (dK D_Ads_copyFrom_1 5 rfl) q_658 (leK rfl) (leK rfl) rfl (hw_0_6 hc1) (hw_0_6 hc0) e_S7 ?_
  refine g_aloadn (pc := 105) (i0 := 0) (j := 0) (dK D_Ads_copyFrom_1 6 rfl) rfl rfl ?_
  refine g_aloadn (pc := 106) (i0 := 1) (j := 1) (dK D_Ads_copyFrom_1 7 rfl) rfl rfl ?_
  refine vg_getI (pc := 107) (ci := 0) (f := 7) (dK D_Ads_copyFrom_1 8 rfl) q_105 hc1 (ltK rfl) (ltK rfl) rfl ?_
  refine nmE h (fun S8 e_S8 h => ?_)
  refine vg_putI (pc := 110) (ci := 0) (f := 7) (z := (g S7 c1 7)) (dK D_Ads_copyFrom_1 9 rfl) q_105 hc0 (ltK rfl) (ltK rfl) rfl rfl e_S8 ?_
  exact g_return (pc := 113) (dK D_Ads_copyFrom_1 10 rfl) rfl (leK rfl) (leK rfl) (fun _ => rfl) (by obtain rfl := Option.some.inj h; exact ⟨rfl, rfl⟩)
def fn_Stories_copyFrom (c0 : Nat) (c1 : Nat) (S : St) : Option (St) := nm (cpI S (tgt c1 0) (tgt c0 0) 10) fun S1 => nm (cpI S1 (tgt c1 1) (tgt c0 1) 10) fun S2 => nm (cpI S2 (tgt c1 2) (tgt c0 2) 10) fun S3 => nm (cpI S3 (tgt c1 3) (tgt c0 3) 10) fun S4 => nm (cpI S4 (tgt c1 4) (tgt c0 4) 10) fun S5 => nm (u S5 c0 5 (g S5 c1 5)) fun S6 => some S6
theorem tf_Stories_copyFrom {E : EV} {X : XT} {c0 : Nat} (hc0 : HC X 9 c0) {c1 : Nat} (hc1 : HC X 9 c1) {S : St} {q : St} (h : fn_Stories_copyFrom c0 c1 S = some q) : Ev E M_Stories_copyFrom [.ref c0, .ref c1] (WX X S) 0 0 (KU X q) := by
  refine Ev.of pn_Stories rfl (leK rfl) ?_
  show Go E M_Stories_copyFrom 0 0 0 [(0, .ref c0), (1, .ref c1)] [] (WX X S) 0 0 (KU X q)
  unfold fn_Stories_copyFrom at h
  refine g_aloadn (pc := 0) (i0 := 1) (j := 1) (dK D_Stories_copyFrom 0 rfl) rfl rfl ?_
  refine vg_getA (pc := 1) (ci := 9) (f := 0) (dK D_Stories_copyFrom 1 rfl) q_133 hc1 (ltK rfl) (ltK rfl) rfl ?_
  refine vg_iconst (pc := 4) (dK D_Stories_copyFrom 2 rfl) ?_
  refine g_aloadn (pc := 5) (i0 := 0) (j := 0) (dK D_Stories_copyFrom 3 rfl) rfl rfl ?_
  refine vg_getA (pc := 6) (ci := 9) (f := 0) (dK D_Stories_copyFrom 4 rfl) q_133 hc0 (ltK rfl) (ltK rfl) rfl ?_
  refine vg_iconst (pc := 9) (dK D_Stories_copyFrom 5 rfl) ?_
  refine vg_bipush (pc := 10) (dK D_Stories_copyFrom 6 rfl) rfl ?_
  refine nmE h (fun S1 e_S1 h => ?_)
  refine vg_copy (pc := 12) (N := 10) (dK D_Stories_copyFrom 7 rfl) q_665 (leK rfl) (leK rfl) rfl (hw_9_0 hc1) (hw_9_0 hc0) e_S1 ?_
  refine g_aloadn (pc := 15) (i0 := 1) (j := 1) (dK D_Stories_copyFrom 8 rfl) rfl rfl ?_
  refine vg_getA (pc := 16) (ci := 9) (f := 1) (dK D_Stories_copyFrom 9 rfl) q_137 hc1 (ltK rfl) (ltK rfl) rfl ?_
  refine vg_iconst (pc := 19) (dK D_Stories_copyFrom 10 rfl) ?_
  refine g_aloadn (pc := 20) (i0 := 0) (j := 0) (dK D_Stories_copyFrom 11 rfl) rfl rfl ?_
  refine vg_getA (pc := 21) (ci := 9) (f := 1) (dK D_Stories_copyFrom 12 rfl) q_137 hc0 (ltK rfl) (ltK rfl) rfl ?_
  refine vg_iconst (pc := 24) (dK D_Stories_copyFrom 13 rfl) ?_
  refine vg_bipush (pc := 25) (dK D_Stories_copyFrom 14 rfl) rfl ?_
  refine nmE h (fun S2 e_S2 h => ?_)
  refine vg_copy (pc := 27) (N := 10) (dK D_Stories_copyFrom 15 rfl) q_665 (leK rfl) (leK rfl) rfl (hw_9_1 hc1) (hw_9_1 hc0) e_S2 ?_
  refine g_aloadn (pc := 30) (i0 := 1) (j := 1) (dK D_Stories_copyFrom 16 rfl) rfl rfl ?_
  refine vg_getA (pc := 31) (ci := 9) (f := 2) (dK D_Stories_copyFrom 17 rfl) q_141 hc1 (ltK rfl) (ltK rfl) rfl ?_
  refine vg_iconst (pc := 34) (dK D_Stories_copyFrom 18 rfl) ?_
  refine g_aloadn (pc := 35) (i0 := 0) (j := 0) (dK D_Stories_copyFrom 19 rfl) rfl rfl ?_
  refine vg_getA (pc := 36) (ci := 9) (f := 2) (dK D_Stories_copyFrom 20 rfl) q_141 hc0 (ltK rfl) (ltK rfl) rfl ?_
  refine vg_iconst (pc := 39) (dK D_Stories_copyFrom 21 rfl) ?_
  refine vg_bipush (pc := 40) (dK D_Stories_copyFrom 22 rfl) rfl ?_
  refine nmE h (fun S3 e_S3 h => ?_)
  refine vg_copy (pc := 42) (N := 10) (dK D_Stories_copyFrom 23 rfl) q_665 (leK rfl) (leK rfl) rfl (hw_9_2 hc1) (hw_9_2 hc0) e_S3 ?_
  refine g_aloadn (pc := 45) (i0 := 1) (j := 1) (dK D_Stories_copyFrom 24 rfl) rfl rfl ?_
  refine vg_getA (pc := 46) (ci := 9) (f := 3) (dK D_Stories_copyFrom 25 rfl) q_144 hc1 (ltK rfl) (ltK rfl) rfl ?_
  refine vg_iconst (pc := 49) (dK D_Stories_copyFrom 26 rfl) ?_
  refine g_aloadn (pc := 50) (i0 := 0) (j := 0) (dK D_Stories_copyFrom 27 rfl) rfl rfl ?_
  refine vg_getA (pc := 51) (ci := 9) (f := 3) (dK D_Stories_copyFrom 28 rfl) q_144 hc0 (ltK rfl) (ltK rfl) rfl ?_
  refine vg_iconst (pc := 54) (dK D_Stories_copyFrom 29 rfl) ?_
  refine vg_bipush (pc := 55) (dK D_Stories_copyFrom 30 rfl) rfl ?_
  refine nmE h (fun S4 e_S4 h => ?_)
  refine vg_copy (pc := 57) (N := 10) (dK D_Stories_copyFrom 31 rfl) q_665 (leK rfl) (leK rfl) rfl (hw_9_3 hc1) (hw_9_3 hc0) e_S4 ?_
  refine g_aloadn (pc := 60) (i0 := 1) (j := 1) (dK D_Stories_copyFrom 32 rfl) rfl rfl ?_
  refine vg_getA (pc := 61) (ci := 9) (f := 4) (dK D_Stories_copyFrom 33 rfl) q_148 hc1 (ltK rfl) (ltK rfl) rfl ?_
  refine vg_iconst (pc := 64) (dK D_Stories_copyFrom 34 rfl) ?_
  refine g_aloadn (pc := 65) (i0 := 0) (j := 0) (dK D_Stories_copyFrom 35 rfl) rfl rfl ?_
  refine vg_getA (pc := 66) (ci := 9) (f := 4) (dK D_Stories_copyFrom 36 rfl) q_148 hc0 (ltK rfl) (ltK rfl) rfl ?_
  refine vg_iconst (pc := 69) (dK D_Stories_copyFrom 37 rfl) ?_
  refine vg_bipush (pc := 70) (dK D_Stories_copyFrom 38 rfl) rfl ?_
  refine nmE h (fun S5 e_S5 h => ?_)
  refine vg_copy (pc := 72) (N := 10) (dK D_Stories_copyFrom 39 rfl) q_665 (leK rfl) (leK rfl) rfl (hw_9_4 hc1) (hw_9_4 hc0) e_S5 ?_
  refine g_aloadn (pc := 75) (i0 := 0) (j := 0) (dK D_Stories_copyFrom 40 rfl) rfl rfl ?_
  refine g_aloadn (pc := 76) (i0 := 1) (j := 1) (dK D_Stories_copyFrom 41 rfl) rfl rfl ?_
  refine vg_getI (pc := 77) (ci := 9) (f := 5) (dK D_Stories_copyFrom 42 rfl) q_153 hc1 (ltK rfl) (ltK rfl) rfl ?_
  refine nmE h (fun S6 e_S6 h => ?_)
  refine vg_putI (pc := 80) (ci := 9) (f := 5) (z := (g S5 c1 5)) (dK D_Stories_copyFrom 43 rfl) q_153 hc0 (ltK rfl) (ltK rfl) rfl rfl e_S6 ?_
  exact g_return (pc := 83) (dK D_Stories_copyFrom 44 rfl) rfl (leK rfl) (leK rfl) (fun _ => rfl) (by obtain rfl := Option.some.inj h; exact ⟨rfl, rfl⟩)
def fn_Standbys_copyFrom (c0 : Nat) (c1 : Nat) (S : St) : Option (St) := nm (cpI S (tgt c1 0) (tgt c0 0) 8) fun S1 => nm (cpI S1 (tgt c1 1) (tgt c0 1) 8) fun S2 => nm (u S2 c0 2 (g S2 c1 2)) fun S3 => some S3
theorem tf_Standbys_copyFrom {E : EV} {X : XT} {c0 : Nat} (hc0 : HC X 7 c0) {c1 : Nat} (hc1 : HC X 7 c1) {S : St} {q : St} (h : fn_Standbys_copyFrom c0 c1 S = some q) : Ev E M_Standbys_copyFrom [.ref c0, .ref c1] (WX X S) 0 0 (KU X q) := by
  refine Ev.of pn_Standbys rfl (leK rfl) ?_
  show Go E M_Standbys_copyFrom 0 0 0 [(0, .ref c0), (1, .ref c1)] [] (WX X S) 0 0 (KU X q)
  unfold fn_Standbys_copyFrom at h
  refine g_aloadn (pc := 0) (i0 := 1) (j := 1) (dK D_Standbys_copyFrom 0 rfl) rfl rfl ?_
  refine vg_getA (pc := 1) (ci := 7) (f := 0) (dK D_Standbys_copyFrom 1 rfl) q_177 hc1 (ltK rfl) (ltK rfl) rfl ?_
  refine vg_iconst (pc := 4) (dK D_Standbys_copyFrom 2 rfl) ?_
  refine g_aloadn (pc := 5) (i0 := 0) (j := 0) (dK D_Standbys_copyFrom 3 rfl) rfl rfl ?_
  refine vg_getA (pc := 6) (ci := 7) (f := 0) (dK D_Standbys_copyFrom 4 rfl) q_177 hc0 (ltK rfl) (ltK rfl) rfl ?_
  refine vg_iconst (pc := 9) (dK D_Standbys_copyFrom 5 rfl) ?_
  refine vg_bipush (pc := 10) (dK D_Standbys_copyFrom 6 rfl) rfl ?_
  refine nmE h (fun S1 e_S1 h => ?_)
  refine vg_copy (pc := 12) (N := 8) (dK D_Standbys_copyFrom 7 rfl) q_670 (leK rfl) (leK rfl) rfl (hw_7_0 hc1) (hw_7_0 hc0) e_S1 ?_
  refine g_aloadn (pc := 15) (i0 := 1) (j := 1) (dK D_Standbys_copyFrom 8 rfl) rfl rfl ?_
  refine vg_getA (pc := 16) (ci := 7) (f := 1) (dK D_Standbys_copyFrom 9 rfl) q_180 hc1 (ltK rfl) (ltK rfl) rfl ?_
  refine vg_iconst (pc := 19) (dK D_Standbys_copyFrom 10 rfl) ?_
  refine g_aloadn (pc := 20) (i0 := 0) (j := 0) (dK D_Standbys_copyFrom 11 rfl) rfl rfl ?_
  refine vg_getA (pc := 21) (ci := 7) (f := 1) (dK D_Standbys_copyFrom 12 rfl) q_180 hc0 (ltK rfl) (ltK rfl) rfl ?_
  refine vg_iconst (pc := 24) (dK D_Standbys_copyFrom 13 rfl) ?_
  refine vg_bipush (pc := 25) (dK D_Standbys_copyFrom 14 rfl) rfl ?_
  refine nmE h (fun S2 e_S2 h => ?_)
  refine vg_copy (pc := 27) (N := 8) (dK D_Standbys_copyFrom 15 rfl) q_670 (leK rfl) (leK rfl) rfl (hw_7_1 hc1) (hw_7_1 hc0) e_S2 ?_
  refine g_aloadn (pc := 30) (i0 := 0) (j := 0) (dK D_Standbys_copyFrom 16 rfl) rfl rfl ?_
  refine g_aloadn (pc := 31) (i0 := 1) (j := 1) (dK D_Standbys_copyFrom 17 rfl) rfl rfl ?_
  refine vg_getI (pc := 32) (ci := 7) (f := 2) (dK D_Standbys_copyFrom 18 rfl) q_183 hc1 (ltK rfl) (ltK rfl) rfl ?_
  refine nmE h (fun S3 e_S3 h => ?_)
  refine vg_putI (pc := 35) (ci := 7) (f := 2) (z := (g S2 c1 2)) (dK D_Standbys_copyFrom 19 rfl) q_183 hc0 (ltK rfl) (ltK rfl) rfl rfl e_S3 ?_
  exact g_return (pc := 38) (dK D_Standbys_copyFrom 20 rfl) rfl (leK rfl) (leK rfl) (fun _ => rfl) (by obtain rfl := Option.some.inj h; exact ⟨rfl, rfl⟩)
def fn_Forms_copyFrom (c0 : Nat) (c1 : Nat) (S : St) : Option (St) := nm (cpI S (tgt c1 0) (tgt c0 0) 8) fun S1 => nm (cpI S1 (tgt c1 1) (tgt c0 1) 8) fun S2 => nm (cpI S2 (tgt c1 2) (tgt c0 2) 8) fun S3 => some S3
theorem tf_Forms_copyFrom {E : EV} {X : XT} {c0 : Nat} (hc0 : HC X 2 c0) {c1 : Nat} (hc1 : HC X 2 c1) {S : St} {q : St} (h : fn_Forms_copyFrom c0 c1 S = some q) : Ev E M_Forms_copyFrom [.ref c0, .ref c1] (WX X S) 0 0 (KU X q) := by
  refine Ev.of pn_Forms rfl (leK rfl) ?_
  show Go E M_Forms_copyFrom 0 0 0 [(0, .ref c0), (1, .ref c1)] [] (WX X S) 0 0 (KU X q)
  unfold fn_Forms_copyFrom at h
  refine g_aloadn (pc := 0) (i0 := 1) (j := 1) (dK D_Forms_copyFrom 0 rfl) rfl rfl ?_
  refine vg_getA (pc := 1) (ci := 2) (f := 0) (dK D_Forms_copyFrom 1 rfl) q_200 hc1 (ltK rfl) (ltK rfl) rfl ?_
  refine vg_iconst (pc := 4) (dK D_Forms_copyFrom 2 rfl) ?_
  refine g_aloadn (pc := 5) (i0 := 0) (j := 0) (dK D_Forms_copyFrom 3 rfl) rfl rfl ?_
  refine vg_getA (pc := 6) (ci := 2) (f := 0) (dK D_Forms_copyFrom 4 rfl) q_200 hc0 (ltK rfl) (ltK rfl) rfl ?_
  refine vg_iconst (pc := 9) (dK D_Forms_copyFrom 5 rfl) ?_
  refine vg_bipush (pc := 10) (dK D_Forms_copyFrom 6 rfl) rfl ?_
  refine nmE h (fun S1 e_S1 h => ?_)
  refine vg_copy (pc := 12) (N := 8) (dK D_Forms_copyFrom 7 rfl) q_675 (leK rfl) (leK rfl) rfl (hw_2_0 hc1) (hw_2_0 hc0) e_S1 ?_
  refine g_aloadn (pc := 15) (i0 := 1) (j := 1) (dK D_Forms_copyFrom 8 rfl) rfl rfl ?_
  refine vg_getA (pc := 16) (ci := 2) (f := 1) (dK D_Forms_copyFrom 9 rfl) q_205 hc1 (ltK rfl) (ltK rfl) rfl ?_
  refine vg_iconst (pc := 19) (dK D_Forms_copyFrom 10 rfl) ?_
  refine g_aloadn (pc := 20) (i0 := 0) (j := 0) (dK D_Forms_copyFrom 11 rfl) rfl rfl ?_
  refine vg_getA (pc := 21) (ci := 2) (f := 1) (dK D_Forms_copyFrom 12 rfl) q_205 hc0 (ltK rfl) (ltK rfl) rfl ?_
  refine vg_iconst (pc := 24) (dK D_Forms_copyFrom 13 rfl) ?_
  refine vg_bipush (pc := 25) (dK D_Forms_copyFrom 14 rfl) rfl ?_
  refine nmE h (fun S2 e_S2 h => ?_)
  refine vg_copy (pc := 27) (N := 8) (dK D_Forms_copyFrom 15 rfl) q_675 (leK rfl) (leK rfl) rfl (hw_2_1 hc1) (hw_2_1 hc0) e_S2 ?_
  refine g_aloadn (pc := 30) (i0 := 1) (j := 1) (dK D_Forms_copyFrom 16 rfl) rfl rfl ?_
  refine vg_getA (pc := 31) (ci := 2) (f := 2) (dK D_Forms_copyFrom 17 rfl) q_209 hc1 (ltK rfl) (ltK rfl) rfl ?_
  refine vg_iconst (pc := 34) (dK D_Forms_copyFrom 18 rfl) ?_
  refine g_aloadn (pc := 35) (i0 := 0) (j := 0) (dK D_Forms_copyFrom 19 rfl) rfl rfl ?_
  refine vg_getA (pc := 36) (ci := 2) (f := 2) (dK D_Forms_copyFrom 20 rfl) q_209 hc0 (ltK rfl) (ltK rfl) rfl ?_
  refine vg_iconst (pc := 39) (dK D_Forms_copyFrom 21 rfl) ?_
  refine vg_bipush (pc := 40) (dK D_Forms_copyFrom 22 rfl) rfl ?_
  refine nmE h (fun S3 e_S3 h => ?_)
  refine vg_copy (pc := 42) (N := 8) (dK D_Forms_copyFrom 23 rfl) q_675 (leK rfl) (leK rfl) rfl (hw_2_2 hc1) (hw_2_2 hc0) e_S3 ?_
  exact g_return (pc := 45) (dK D_Forms_copyFrom 24 rfl) rfl (leK rfl) (leK rfl) (fun _ => rfl) (by obtain rfl := Option.some.inj h; exact ⟨rfl, rfl⟩)
def fn_State_copyFrom (c0 : Nat) (c1 : Nat) (S : St) : Option (St) := bnO (fn_Ads_copyFrom (tgt c0 0) (tgt c1 0) S) fun p1 => bnO (fn_Stories_copyFrom (tgt c0 1) (tgt c1 1) p1) fun p2 => bnO (fn_Standbys_copyFrom (tgt c0 2) (tgt c1 2) p2) fun p3 => bnO (fn_Forms_copyFrom (tgt c0 3) (tgt c1 3) p3) fun p4 => nm (u p4 c0 4 (g p4 c1 4)) fun S5 => nm (u S5 c0 5 (g S5 c1 5)) fun S6 => nm (u S6 c0 6 (g S6 c1 6)) fun S7 => nm (u S7 c0 7 (g S7 c1 7)) fun S8 => some S8
theorem tf_State_copyFrom {E : EV} {X : XT} {c0 : Nat} (hc0 : HC X 8 c0) {c1 : Nat} (hc1 : HC X 8 c1) {S : St} {q : St} (h : fn_State_copyFrom c0 c1 S = some q) : Ev E M_State_copyFrom [.ref c0, .ref c1] (WX X S) 0 0 (KU X q) := by
  refine Ev.of pn_State rfl (leK rfl) ?_
  show Go E M_State_copyFrom 0 0 0 [(0, .ref c0), (1, .ref c1)] [] (WX X S) 0 0 (KU X q)
  unfold fn_State_copyFrom at h
  refine g_aloadn (pc := 0) (i0 := 0) (j := 0) (dK D_State_copyFrom 0 rfl) rfl rfl ?_
  refine vg_getO (pc := 1) (ci := 8) (f := 0) (dK D_State_copyFrom 1 rfl) q_220 hc0 (ltK rfl) (ltK rfl) rfl ?_
  refine g_aloadn (pc := 4) (i0 := 1) (j := 1) (dK D_State_copyFrom 2 rfl) rfl rfl ?_
  refine vg_getO (pc := 5) (ci := 8) (f := 0) (dK D_State_copyFrom 3 rfl) q_220 hc1 (ltK rfl) (ltK rfl) rfl ?_
  refine bnE h (fun p1 e_p1 h => ?_)
  refine vg_cV (pc := 8) (As := [.ref (tgt c1 0)]) (rest := []) (mc' := 0) (ms' := 0) (dK D_State_copyFrom 4 rfl) K_State_37 (fitK rfl) (ltK rfl) (hw_8_0 hc0) rfl (leK rfl) (leK rfl) (leK rfl) (tf_Ads_copyFrom (hw_8_0 hc0) (hw_8_0 hc1) e_p1) (kcU ?_)
  refine g_aloadn (pc := 11) (i0 := 0) (j := 0) (dK D_State_copyFrom 5 rfl) rfl rfl ?_
  refine vg_getO (pc := 12) (ci := 8) (f := 1) (dK D_State_copyFrom 6 rfl) q_225 hc0 (ltK rfl) (ltK rfl) rfl ?_
  refine g_aloadn (pc := 15) (i0 := 1) (j := 1) (dK D_State_copyFrom 7 rfl) rfl rfl ?_
  refine vg_getO (pc := 16) (ci := 8) (f := 1) (dK D_State_copyFrom 8 rfl) q_225 hc1 (ltK rfl) (ltK rfl) rfl ?_
  refine bnE h (fun p2 e_p2 h => ?_)
  refine vg_cV (pc := 19) (As := [.ref (tgt c1 1)]) (rest := []) (mc' := 0) (ms' := 0) (dK D_State_copyFrom 9 rfl) K_State_41 (fitK rfl) (ltK rfl) (hw_8_1 hc0) rfl (leK rfl) (leK rfl) (leK rfl) (tf_Stories_copyFrom (hw_8_1 hc0) (hw_8_1 hc1) e_p2) (kcU ?_)
  refine g_aloadn (pc := 22) (i0 := 0) (j := 0) (dK D_State_copyFrom 10 rfl) rfl rfl ?_
  refine vg_getO (pc := 23) (ci := 8) (f := 2) (dK D_State_copyFrom 11 rfl) q_230 hc0 (ltK rfl) (ltK rfl) rfl ?_
  refine g_aloadn (pc := 26) (i0 := 1) (j := 1) (dK D_State_copyFrom 12 rfl) rfl rfl ?_
  refine vg_getO (pc := 27) (ci := 8) (f := 2) (dK D_State_copyFrom 13 rfl) q_230 hc1 (ltK rfl) (ltK rfl) rfl ?_
  refine bnE h (fun p3 e_p3 h => ?_)
  refine vg_cV (pc := 30) (As := [.ref (tgt c1 2)]) (rest := []) (mc' := 0) (ms' := 0) (dK D_State_copyFrom 14 rfl) K_State_44 (fitK rfl) (ltK rfl) (hw_8_2 hc0) rfl (leK rfl) (leK rfl) (leK rfl) (tf_Standbys_copyFrom (hw_8_2 hc0) (hw_8_2 hc1) e_p3) (kcU ?_)
  refine g_aloadn (pc := 33) (i0 := 0) (j := 0) (dK D_State_copyFrom 15 rfl) rfl rfl ?_
  refine vg_getO (pc := 34) (ci := 8) (f := 3) (dK D_State_copyFrom 16 rfl) q_234 hc0 (ltK rfl) (ltK rfl) rfl ?_
  refine g_aloadn (pc := 37) (i0 := 1) (j := 1) (dK D_State_copyFrom 17 rfl) rfl rfl ?_
  refine vg_getO (pc := 38) (ci := 8) (f := 3) (dK D_State_copyFrom 18 rfl) q_234 hc1 (ltK rfl) (ltK rfl) rfl ?_
  refine bnE h (fun p4 e_p4 h => ?_)
  refine vg_cV (pc := 41) (As := [.ref (tgt c1 3)]) (rest := []) (mc' := 0) (ms' := 0) (dK D_State_copyFrom 19 rfl) K_State_47 (fitK rfl) (ltK rfl) (hw_8_3 hc0) rfl (leK rfl) (leK rfl) (leK rfl) (tf_Forms_copyFrom (hw_8_3 hc0) (hw_8_3 hc1) e_p4) (kcU ?_)
  refine g_aloadn (pc := 44) (i0 := 0) (j := 0) (dK D_State_copyFrom 20 rfl) rfl rfl ?_
  refine g_aloadn (pc := 45) (i0 := 1) (j := 1) (dK D_State_copyFrom 21 rfl) rfl rfl ?_
  refine vg_getI (pc := 46) (ci := 8) (f := 4) (dK D_State_copyFrom 22 rfl) q_240 hc1 (ltK rfl) (ltK rfl) rfl ?_
  refine nmE h (fun S5 e_S5 h => ?_)
  refine vg_putI (pc := 49) (ci := 8) (f := 4) (z := (g p4 c1 4)) (dK D_State_copyFrom 23 rfl) q_240 hc0 (ltK rfl) (ltK rfl) rfl rfl e_S5 ?_
  refine g_aloadn (pc := 52) (i0 := 0) (j := 0) (dK D_State_copyFrom 24 rfl) rfl rfl ?_
  refine g_aloadn (pc := 53) (i0 := 1) (j := 1) (dK D_State_copyFrom 25 rfl) rfl rfl ?_
  refine vg_getI (pc := 54) (ci := 8) (f := 5) (dK D_State_copyFrom 26 rfl) q_243 hc1 (ltK rfl) (ltK rfl) rfl ?_
  refine nmE h (fun S6 e_S6 h => ?_)
  refine vg_putI (pc := 57) (ci := 8) (f := 5) (z := (g S5 c1 5)) (dK D_State_copyFrom 27 rfl) q_243 hc0 (ltK rfl) (ltK rfl) rfl rfl e_S6 ?_
  refine g_aloadn (pc := 60) (i0 := 0) (j := 0) (dK D_State_copyFrom 28 rfl) rfl rfl ?_
  refine g_aloadn (pc := 61) (i0 := 1) (j := 1) (dK D_State_copyFrom 29 rfl) rfl rfl ?_
  refine vg_getI (pc := 62) (ci := 8) (f := 6) (dK D_State_copyFrom 30 rfl) q_246 hc1 (ltK rfl) (ltK rfl) rfl ?_
  refine nmE h (fun S7 e_S7 h => ?_)
  refine vg_putI (pc := 65) (ci := 8) (f := 6) (z := (g S6 c1 6)) (dK D_State_copyFrom 31 rfl) q_246 hc0 (ltK rfl) (ltK rfl) rfl rfl e_S7 ?_
  refine g_aloadn (pc := 68) (i0 := 0) (j := 0) (dK D_State_copyFrom 32 rfl) rfl rfl ?_
  refine g_aloadn (pc := 69) (i0 := 1) (j := 1) (dK D_State_copyFrom 33 rfl) rfl rfl ?_
  refine vg_getI (pc := 70) (ci := 8) (f := 7) (dK D_State_copyFrom 34 rfl) q_249 hc1 (ltK rfl) (ltK rfl) rfl ?_
  refine nmE h (fun S8 e_S8 h => ?_)
  refine vg_putI (pc := 73) (ci := 8) (f := 7) (z := (g S7 c1 7)) (dK D_State_copyFrom 35 rfl) q_249 hc0 (ltK rfl) (ltK rfl) rfl rfl e_S8 ?_
  exact g_return (pc := 76) (dK D_State_copyFrom 36 rfl) rfl (leK rfl) (leK rfl) (fun _ => rfl) (by obtain rfl := Option.some.inj h; exact ⟨rfl, rfl⟩)
def fn_Plan_become (c0 : Nat) (c1 : Nat) (S : St) : Option (St) := bnO (fn_State_copyFrom (tgt c0 0) c1 S) fun p1 => bnO (fn_Plan_layOut c0 p1) fun p2 => bnO (fn_Plan_recount c0 p2) fun p3 => some p3
theorem tf_Plan_become {E : EV} {X : XT} {c0 : Nat} (hc0 : HC X 4 c0) {c1 : Nat} (hc1 : HC X 8 c1) {S : St} {q : St} (h : fn_Plan_become c0 c1 S = some q) : Ev E M_Plan_become [.ref c0, .ref c1] (WX X S) 0 0 (KU X q) := by
  refine Ev.of pn_Plan rfl (leK rfl) ?_
  show Go E M_Plan_become 0 0 0 [(0, .ref c0), (1, .ref c1)] [] (WX X S) 0 0 (KU X q)
  unfold fn_Plan_become at h
  refine g_aloadn (pc := 0) (i0 := 0) (j := 0) (dK D_Plan_become 0 rfl) rfl rfl ?_
  refine vg_getO (pc := 1) (ci := 4) (f := 0) (dK D_Plan_become 1 rfl) q_290 hc0 (ltK rfl) (ltK rfl) rfl ?_
  refine g_aloadn (pc := 4) (i0 := 1) (j := 1) (dK D_Plan_become 2 rfl) rfl rfl ?_
  refine bnE h (fun p1 e_p1 h => ?_)
  refine vg_cV (pc := 5) (As := [.ref c1]) (rest := []) (mc' := 0) (ms' := 0) (dK D_Plan_become 3 rfl) K_Plan_101 (fitK rfl) (ltK rfl) (hw_4_0 hc0) rfl (leK rfl) (leK rfl) (leK rfl) (tf_State_copyFrom (hw_4_0 hc0) hc1 e_p1) (kcU ?_)
  refine g_aloadn (pc := 8) (i0 := 0) (j := 0) (dK D_Plan_become 4 rfl) rfl rfl ?_
  refine bnE h (fun p2 e_p2 h => ?_)
  refine vg_cV (pc := 9) (As := []) (rest := []) (mc' := 0) (ms' := 0) (dK D_Plan_become 5 rfl) K_Plan_95 (fitK rfl) (ltK rfl) hc0 rfl (leK rfl) (leK rfl) (leK rfl) (tf_Plan_layOut hc0 e_p2) (kcU ?_)
  refine g_aloadn (pc := 12) (i0 := 0) (j := 0) (dK D_Plan_become 6 rfl) rfl rfl ?_
  refine bnE h (fun p3 e_p3 h => ?_)
  refine vg_cV (pc := 13) (As := []) (rest := []) (mc' := 0) (ms' := 0) (dK D_Plan_become 7 rfl) K_Plan_98 (fitK rfl) (ltK rfl) hc0 rfl (leK rfl) (leK rfl) (leK rfl) (tf_Plan_recount hc0 e_p3) (kcU ?_)
  exact g_return (pc := 16) (dK D_Plan_become 8 rfl) rfl (leK rfl) (leK rfl) (fun _ => rfl) (by obtain rfl := Option.some.inj h; exact ⟨rfl, rfl⟩)
def fn_History_forget (c0 : Nat) (S : St) : Option (St) := nm (u S c0 2 0) fun S1 => some S1
theorem tf_History_forget {E : EV} {X : XT} {c0 : Nat} (hc0 : HC X 3 c0) {S : St} {q : St} (h : fn_History_forget c0 S = some q) : Ev E M_History_forget [.ref c0] (WX X S) 0 0 (KU X q) := by
  refine Ev.of pn_History rfl (leK rfl) ?_
  show Go E M_History_forget 0 0 0 [(0, .ref c0)] [] (WX X S) 0 0 (KU X q)
  unfold fn_History_forget at h
  refine g_aloadn (pc := 0) (i0 := 0) (j := 0) (dK D_History_forget 0 rfl) rfl rfl ?_
  refine vg_iconst (pc := 1) (dK D_History_forget 1 rfl) ?_
  refine nmE h (fun S1 e_S1 h => ?_)
  refine vg_putI (pc := 2) (ci := 3) (f := 2) (z := 0) (dK D_History_forget 2 rfl) q_411 hc0 (ltK rfl) (ltK rfl) rfl rfl e_S1 ?_
  exact g_return (pc := 5) (dK D_History_forget 3 rfl) rfl (leK rfl) (leK rfl) (fun _ => rfl) (by obtain rfl := Option.some.inj h; exact ⟨rfl, rfl⟩)
def fn_FP_load (c0 : Nat) (S : St) : Option (Int × St) := bnO (fn_Reader_readText (tgt c0 0) S) fun p1 => nm (u p1.2 (tgt c0 1) 1 0) fun S2 => if p1.1 = (-1) then (some ((-3), S2)) else (bnO (fn_Plan_become (tgt c0 3) (tgt (tgt (tgt c0 0) 1) 0) S2) fun p3 => bnO (fn_History_forget (tgt c0 4) p3) fun p4 => some (p1.1, p4))
theorem tf_FP_load {E : EV} {X : XT} {c0 : Nat} (hc0 : HC X 10 c0) {S : St} {q : Int × St} (h : fn_FP_load c0 S = some q) : Ev E M_FP_load [.ref c0] (WX X S) 0 0 (KI X q.1 q.2) := by
  refine Ev.of pn_FP rfl (leK rfl) ?_
  show Go E M_FP_load 0 0 0 [(0, .ref c0)] [] (WX X S) 0 0 (KI X q.1 q.2)
  unfold fn_FP_load at h
  refine g_aloadn (pc := 0) (i0 := 0) (j := 0) (dK D_FP_load 0 rfl) rfl rfl ?_
  refine vg_getO (pc := 1) (ci := 10) (f := 0) (dK D_FP_load 1 rfl) q_422 hc0 (ltK rfl) (ltK rfl) rfl ?_
  refine bnE h (fun p1 e_p1 h => ?_)
  refine vg_cV (pc := 4) (As := []) (rest := []) (mc' := 0) (ms' := 0) (dK D_FP_load 2 rfl) K_FP_57 (fitK rfl) (ltK rfl) (hw_10_0 hc0) rfl (leK rfl) (leK rfl) (leK rfl) (tf_Reader_readText (hw_10_0 hc0) e_p1) (kcI (fun h_p1 => ?_))
  refine g_istoren (pc := 7) (i0 := 1) (ls2 := [(1, V p1.1), (0, .ref c0)]) (dK D_FP_load 3 rfl) rfl (ltK rfl) rfl ?_
  refine g_aloadn (pc := 8) (i0 := 0) (j := 1) (dK D_FP_load 4 rfl) rfl rfl ?_
  refine vg_getO (pc := 9) (ci := 10) (f := 1) (dK D_FP_load 5 rfl) q_423 hc0 (ltK rfl) (ltK rfl) rfl ?_
  refine vg_iconst (pc := 12) (dK D_FP_load 6 rfl) ?_
  refine nmE h (fun S2 e_S2 h => ?_)
  refine vg_putI (pc := 13) (ci := 1) (f := 1) (z := 0) (dK D_FP_load 7 rfl) q_50 (hw_10_1 hc0) (ltK rfl) (ltK rfl) rfl rfl e_S2 ?_
  refine g_iloadn (pc := 16) (i0 := 1) (j := 0) (dK D_FP_load 8 rfl) rfl rfl ?_
  refine vg_iconst (pc := 17) (dK D_FP_load 9 rfl) ?_
  refine vg_icmp_ne (pc := 18) (t := 24) (dK D_FP_load 10 rfl) rfl h_p1 (inRk rfl) (fun hc5 => ?_) (fun hc5 => ?_)
  · replace h := ifN h hc5
    refine g_aloadn (pc := 24) (i0 := 0) (j := 1) (dK D_FP_load 13 rfl) rfl rfl ?_
    refine vg_getO (pc := 25) (ci := 10) (f := 3) (dK D_FP_load 14 rfl) q_425 hc0 (ltK rfl) (ltK rfl) rfl ?_
    refine g_aloadn (pc := 28) (i0 := 0) (j := 1) (dK D_FP_load 15 rfl) rfl rfl ?_
    refine vg_getO (pc := 29) (ci := 10) (f := 0) (dK D_FP_load 16 rfl) q_422 hc0 (ltK rfl) (ltK rfl) rfl ?_
    refine vg_getO (pc := 32) (ci := 5) (f := 1) (dK D_FP_load 17 rfl) q_334 (hw_10_0 hc0) (ltK rfl) (ltK rfl) rfl ?_
    refine vg_getO (pc := 35) (ci := 4) (f := 0) (dK D_FP_load 18 rfl) q_292 (hw_5_1 (hw_10_0 hc0)) (ltK rfl) (ltK rfl) rfl ?_
    refine bnE h (fun p3 e_p3 h => ?_)
    refine vg_cV (pc := 38) (As := [.ref (tgt (tgt (tgt c0 0) 1) 0)]) (rest := []) (mc' := 0) (ms' := 0) (dK D_FP_load 19 rfl) K_FP_70 (fitK rfl) (ltK rfl) (hw_10_3 hc0) rfl (leK rfl) (leK rfl) (leK rfl) (tf_Plan_become (hw_10_3 hc0) (hw_4_0 (hw_5_1 (hw_10_0 hc0))) e_p3) (kcU ?_)
    refine g_aloadn (pc := 41) (i0 := 0) (j := 1) (dK D_FP_load 20 rfl) rfl rfl ?_
    refine vg_getO (pc := 42) (ci := 10) (f := 4) (dK D_FP_load 21 rfl) q_426 hc0 (ltK rfl) (ltK rfl) rfl ?_
    refine bnE h (fun p4 e_p4 h => ?_)
    refine vg_cV (pc := 45) (As := []) (rest := []) (mc' := 0) (ms' := 0) (dK D_FP_load 22 rfl) K_FP_74 (fitK rfl) (ltK rfl) (hw_10_4 hc0) rfl (leK rfl) (leK rfl) (leK rfl) (tf_History_forget (hw_10_4 hc0) e_p4) (kcU ?_)
    refine g_iloadn (pc := 48) (i0 := 1) (j := 0) (dK D_FP_load 23 rfl) rfl rfl ?_
    exact vg_iretI (pc := 49) (r := p1.1) (dK D_FP_load 24 rfl) rfl (leK rfl) (leK rfl) (fun _ => rfl) (by obtain rfl := Option.some.inj h; exact ⟨rfl, h_p1, rfl⟩)
  · replace h := ifP h hc5
    refine vg_bipush (pc := 21) (dK D_FP_load 11 rfl) rfl ?_
    exact vg_iretI (pc := 23) (r := (-3)) (dK D_FP_load 12 rfl) rfl (leK rfl) (leK rfl) (fun _ => rfl) (by obtain rfl := Option.some.inj h; exact ⟨rfl, (inRk rfl), rfl⟩)
def fn_FP_errorCode (c0 : Nat) (S : St) : Option (Int) := some (g S (tgt c0 0) 6)
theorem tf_FP_errorCode {E : EV} {X : XT} {c0 : Nat} (hc0 : HC X 10 c0) {S : St} {q : Int} (h : fn_FP_errorCode c0 S = some q) : Ev E M_FP_errorCode [.ref c0] (WX X S) 0 0 (KI X q S) := by
  refine Ev.of pn_FP rfl (leK rfl) ?_
  show Go E M_FP_errorCode 0 0 0 [(0, .ref c0)] [] (WX X S) 0 0 (KI X q S)
  unfold fn_FP_errorCode at h
  refine g_aloadn (pc := 0) (i0 := 0) (j := 0) (dK D_FP_errorCode 0 rfl) rfl rfl ?_
  refine vg_getO (pc := 1) (ci := 10) (f := 0) (dK D_FP_errorCode 1 rfl) q_422 hc0 (ltK rfl) (ltK rfl) rfl ?_
  refine vg_getI (pc := 4) (ci := 5) (f := 6) (dK D_FP_errorCode 2 rfl) q_340 (hw_10_0 hc0) (ltK rfl) (ltK rfl) rfl ?_
  exact vg_iretI (pc := 7) (r := (g S (tgt c0 0) 6)) (dK D_FP_errorCode 3 rfl) rfl (leK rfl) (leK rfl) (fun _ => rfl) (by obtain rfl := Option.some.inj h; exact ⟨rfl, (g_in _ _ _), rfl⟩)
def fn_FP_errorPosition (c0 : Nat) (S : St) : Option (Int) := some (g S (tgt c0 0) 7)
theorem tf_FP_errorPosition {E : EV} {X : XT} {c0 : Nat} (hc0 : HC X 10 c0) {S : St} {q : Int} (h : fn_FP_errorPosition c0 S = some q) : Ev E M_FP_errorPosition [.ref c0] (WX X S) 0 0 (KI X q S) := by
  refine Ev.of pn_FP rfl (leK rfl) ?_
  show Go E M_FP_errorPosition 0 0 0 [(0, .ref c0)] [] (WX X S) 0 0 (KI X q S)
  unfold fn_FP_errorPosition at h
  refine g_aloadn (pc := 0) (i0 := 0) (j := 0) (dK D_FP_errorPosition 0 rfl) rfl rfl ?_
  refine vg_getO (pc := 1) (ci := 10) (f := 0) (dK D_FP_errorPosition 1 rfl) q_422 hc0 (ltK rfl) (ltK rfl) rfl ?_
  refine vg_getI (pc := 4) (ci := 5) (f := 7) (dK D_FP_errorPosition 2 rfl) q_342 (hw_10_0 hc0) (ltK rfl) (ltK rfl) rfl ?_
  exact vg_iretI (pc := 7) (r := (g S (tgt c0 0) 7)) (dK D_FP_errorPosition 3 rfl) rfl (leK rfl) (leK rfl) (fun _ => rfl) (by obtain rfl := Option.some.inj h; exact ⟨rfl, (g_in _ _ _), rfl⟩)
def lb_FP_placed_4 (nc0 : Nat) (c0 : Nat) (a1 : Int) (S : St) (go : Int × Int → Option (Int)) (a2 : Int) (a3 : Int) : Option (Int) := if a1 ≤ a3 then (some a2) else (if (nc0 : Int) ≤ a3 then (some a2) else (if 0 ≤ a3 ∧ a3 < (nc0 : Int) then (if (g S c0 a3.toNat) = 0 then (nm (wr (a3 + 1)) fun v2 => go (a2, v2)) else (nm (wr (a2 + 1)) fun v3 => nm (wr (a3 + 1)) fun v4 => go (v3, v4))) else none))
def lo_FP_placed_4 (nc0 : Nat) (c0 : Nat) (a1 : Int) (S : St) : Nat → Int × Int → Option (Int) := lp fun go p => lb_FP_placed_4 nc0 c0 a1 S go p.1 p.2
theorem tl_FP_placed_4 {E : EV} {X : XT} {nc0 c0 : Nat} (hnc0 : Nat.ble nc0 99999 = true) (hc0 : HA X 0 nc0 c0) {a1 : Int} (ha1 : inR a1) {S : St} {K : RK → PS → Prop} {q : Int} (hx : inR q → Go E M_FP_placed 0 0 30 [(2, V q)] [] (WX X S) 0 0 K) : ∀ n a, lo_FP_placed_4 nc0 c0 a1 S n a = some q → inR a.1 → inR a.2 → Go E M_FP_placed 0 0 4 [(0, .ref c0), (1, V a1), (2, V a.1), (3, V a.2)] [] (WX X S) 0 0 K := by
  refine lp_ind (P := fun a : Int × Int => inR a.1 → inR a.2 → Go E M_FP_placed 0 0 4 [(0, .ref c0), (1, V a1), (2, V a.1), (3, V a.2)] [] (WX X S) 0 0 K) (fun go ih a h => ?_)
  obtain ⟨a2, a3⟩ := a
  intro ha2 ha3
  show Go E M_FP_placed 0 0 4 [(0, .ref c0), (1, V a1), (2, V a2), (3, V a3)] [] (WX X S) 0 0 K
  replace h : lb_FP_placed_4 nc0 c0 a1 S go a2 a3 = some q := h
  unfold lb_FP_placed_4 at h
  refine g_iloadn (pc := 4) (i0 := 3) (j := 3) (dK D_FP_placed 4 rfl) rfl rfl ?_
  refine g_iloadn (pc := 5) (i0 := 1) (j := 1) (dK D_FP_placed 5 rfl) rfl rfl ?_
  refine vg_icmp_ge (pc := 6) (t := 30) (dK D_FP_placed 6 rfl) rfl ha3 ha1 (fun hc7 => ?_) (fun hc7 => ?_)
  · replace h := ifP h hc7
    obtain rfl := Option.some.inj h
    refine gL_weak (ls' := [(2, V a2)]) (sbc 2 rfl sbn) ?_
    exact hx ha2
  · replace h := ifN h hc7
    refine g_iloadn (pc := 9) (i0 := 3) (j := 3) (dK D_FP_placed 7 rfl) rfl rfl ?_
    refine g_aloadn (pc := 10) (i0 := 0) (j := 0) (dK D_FP_placed 8 rfl) rfl rfl ?_
    refine vg_alen (pc := 11) (dK D_FP_placed 9 rfl) (ltK rfl) hc0 ?_
    refine vg_icmp_ge (pc := 12) (t := 30) (dK D_FP_placed 10 rfl) rfl ha3 (inR_nat hnc0) (fun hc6 => ?_) (fun hc6 => ?_)
    · replace h := ifP h hc6
      obtain rfl := Option.some.inj h
      refine gL_weak (ls' := [(2, V a2)]) (sbc 2 rfl sbn) ?_
      exact hx ha2
    · replace h := ifN h hc6
      refine g_aloadn (pc := 15) (i0 := 0) (j := 0) (dK D_FP_placed 11 rfl) rfl rfl ?_
      refine g_iloadn (pc := 16) (i0 := 3) (j := 3) (dK D_FP_placed 12 rfl) rfl rfl ?_
      refine gdE h (fun hi1 h => ?_)
      refine vg_iaload (pc := 17) (j := a3.toNat) (dK D_FP_placed 13 rfl) hc0 hnc0 hi1 rfl ?_
      refine vg_if_eq (pc := 18) (t := 24) (dK D_FP_placed 14 rfl) rfl (g_in _ _ _) (fun hc5 => ?_) (fun hc5 => ?_)
      · replace h := ifP h hc5
        refine nmE h (fun v2 e_v2 h => ?_)
        refine vg_iinc (pc := 24) (j := 3) (a := a3) (z := 1) (ls2 := [(3, V v2), (0, .ref c0), (1, V a1), (2, V a2)]) (dK D_FP_placed 16 rfl) rfl e_v2 (ltK rfl) rfl ?_
        refine g_goto (pc := 27) (tgt := 4) (dK D_FP_placed 17 rfl) rfl ?_
        refine gL_weak (ls' := [(0, .ref c0), (1, V a1), (2, V a2), (3, V v2)]) (sbc 1 rfl (sbc 2 rfl (sbc 3 rfl (sbc 0 rfl sbn)))) ?_
        replace h := ih _ h
        exact h ha2 (Vn_in e_v2)
      · replace h := ifN h hc5
        refine nmE h (fun v3 e_v3 h => ?_)
        refine vg_iinc (pc := 21) (j := 2) (a := a2) (z := 1) (ls2 := [(2, V v3), (0, .ref c0), (1, V a1), (3, V a3)]) (dK D_FP_placed 15 rfl) rfl e_v3 (ltK rfl) rfl ?_
        refine nmE h (fun v4 e_v4 h => ?_)
        refine vg_iinc (pc := 24) (j := 3) (a := a3) (z := 1) (ls2 := [(3, V v4), (2, V v3), (0, .ref c0), (1, V a1)]) (dK D_FP_placed 16 rfl) rfl e_v4 (ltK rfl) rfl ?_
        refine g_goto (pc := 27) (tgt := 4) (dK D_FP_placed 17 rfl) rfl ?_
        refine gL_weak (ls' := [(0, .ref c0), (1, V a1), (2, V v3), (3, V v4)]) (sbc 2 rfl (sbc 3 rfl (sbc 1 rfl (sbc 0 rfl sbn)))) ?_
        replace h := ih _ h
        exact h (Vn_in e_v3) (Vn_in e_v4)
def fn_FP_placed (n0 : Nat) (c0 : Nat) (a1 : Int) (S : St) : Option (Int) := bnO (lo_FP_placed_4 n0 c0 a1 S FU (0, 0)) fun p8 => some p8
theorem tf_FP_placed {E : EV} {X : XT} {n0 c0 : Nat} (hn0 : Nat.ble n0 99999 = true) (hc0 : HA X 0 n0 c0) {a1 : Int} (ha1 : inR a1) {S : St} {q : Int} (h : fn_FP_placed n0 c0 a1 S = some q) : Ev E M_FP_placed [.ref c0, V a1] (WX X S) 0 0 (KI X q S) := by
  refine Ev.of pn_FP rfl (leK rfl) ?_
  show Go E M_FP_placed 0 0 0 [(0, .ref c0), (1, V a1)] [] (WX X S) 0 0 (KI X q S)
  unfold fn_FP_placed at h
  refine vg_iconst (pc := 0) (dK D_FP_placed 0 rfl) ?_
  refine g_istoren (pc := 1) (i0 := 2) (ls2 := [(2, V 0), (0, .ref c0), (1, V a1)]) (dK D_FP_placed 1 rfl) rfl (ltK rfl) rfl ?_
  refine vg_iconst (pc := 2) (dK D_FP_placed 2 rfl) ?_
  refine g_istoren (pc := 3) (i0 := 3) (ls2 := [(3, V 0), (2, V 0), (0, .ref c0), (1, V a1)]) (dK D_FP_placed 3 rfl) rfl (ltK rfl) rfl ?_
  refine bnE h (fun p8 e_p8 h => ?_)
  refine gL_weak (ls' := [(0, .ref c0), (1, V a1), (2, V 0), (3, V 0)]) (sbc 2 rfl (sbc 3 rfl (sbc 1 rfl (sbc 0 rfl sbn)))) ?_
  refine tl_FP_placed_4 hn0 hc0 ha1 (fun hx2_p8 => ?_) FU (0, 0) e_p8 (inRk rfl) (inRk rfl)
  refine g_iloadn (pc := 30) (i0 := 2) (j := 0) (dK D_FP_placed 18 rfl) rfl rfl ?_
  exact vg_iretI (pc := 31) (r := p8) (dK D_FP_placed 19 rfl) rfl (leK rfl) (leK rfl) (fun _ => rfl) (by obtain rfl := Option.some.inj h; exact ⟨rfl, hx2_p8, rfl⟩)
def fn_FP_count (c0 : Nat) (a1 : Int) (S : St) : Option (Int) := if a1 = 0 then (some (g S (tgt c0 3) 1)) else if a1 = 1 then (some (g S (tgt (tgt c0 3) 0) 4)) else if a1 = 2 then (some (g S (tgt c0 3) 2)) else if a1 = 3 then (some (g S (tgt (tgt (tgt c0 3) 0) 0) 7)) else if a1 = 4 then (some (g S (tgt (tgt (tgt c0 3) 0) 1) 5)) else if a1 = 5 then (some (g S (tgt (tgt (tgt c0 3) 0) 2) 2)) else if a1 = 6 then (some (g S (tgt (tgt c0 3) 0) 6)) else if a1 = 7 then (bnO (fn_FP_placed 40 (tgt (tgt (tgt (tgt c0 3) 0) 0) 6) (g S (tgt (tgt (tgt c0 3) 0) 0) 7) S) fun p9 => some p9) else if a1 = 8 then (bnO (fn_FP_placed 10 (tgt (tgt (tgt (tgt c0 3) 0) 1) 4) (g S (tgt (tgt (tgt c0 3) 0) 1) 5) S) fun p11 => some p11) else if a1 = 9 then (bnO (fn_FP_placed 8 (tgt (tgt (tgt (tgt c0 3) 0) 2) 1) (g S (tgt (tgt (tgt c0 3) 0) 2) 2) S) fun p13 => some p13) else if a1 = 10 then (bnO (fn_FP_placed 8 (tgt (tgt (tgt (tgt c0 3) 0) 3) 1) (g S (tgt c0 3) 2) S) fun p15 => some p15) else if a1 = 11 then (bnO (fn_FP_placed 8 (tgt (tgt (tgt (tgt c0 3) 0) 3) 0) (g S (tgt c0 3) 2) S) fun p17 => some p17) else (some (-1))
theorem tf_FP_count {E : EV} {X : XT} {c0 : Nat} (hc0 : HC X 10 c0) {a1 : Int} (ha1 : inR a1) {S : St} {q : Int} (h : fn_FP_count c0 a1 S = some q) : Ev E M_FP_count [.ref c0, V a1] (WX X S) 0 0 (KI X q S) := by
  refine Ev.of pn_FP rfl (leK rfl) ?_
  show Go E M_FP_count 0 0 0 [(0, .ref c0), (1, V a1)] [] (WX X S) 0 0 (KI X q S)
  unfold fn_FP_count at h
  refine g_aloadn (pc := 0) (i0 := 0) (j := 0) (dK D_FP_count_0 0 rfl) rfl rfl ?_
  refine vg_getO (pc := 1) (ci := 10) (f := 3) (dK D_FP_count_0 1 rfl) q_425 hc0 (ltK rfl) (ltK rfl) rfl ?_
  refine vg_getO (pc := 4) (ci := 4) (f := 0) (dK D_FP_count_0 2 rfl) q_292 (hw_10_3 hc0) (ltK rfl) (ltK rfl) rfl ?_
  refine g_astoren (pc := 7) (i0 := 2) (ls2 := [(2, .ref (tgt (tgt c0 3) 0)), (0, .ref c0), (1, V a1)]) (dK D_FP_count_0 3 rfl) rfl (ltK rfl) rfl ?_
  refine g_iloadn (pc := 8) (i0 := 1) (j := 2) (dK D_FP_count_0 4 rfl) rfl rfl ?_
  by_cases hk1 : a1 = 0
  · have h := ifP h hk1
    refine vg_tabK (pc := 9) (kk := 0) (t := 72) (dK D_FP_count_0 5 rfl) hk1 rfl rfl rfl rfl ?_
    refine g_aloadn (pc := 72) (i0 := 0) (j := 1) (dK D_FP_count_0 6 rfl) rfl rfl ?_
    refine vg_getO (pc := 73) (ci := 10) (f := 3) (dK D_FP_count_0 7 rfl) q_425 hc0 (ltK rfl) (ltK rfl) rfl ?_
    refine vg_getI (pc := 76) (ci := 4) (f := 1) (dK D_FP_count_0 8 rfl) q_296 (hw_10_3 hc0) (ltK rfl) (ltK rfl) rfl ?_
    exact vg_iretI (pc := 79) (r := (g S (tgt c0 3) 1)) (dK D_FP_count_0 9 rfl) rfl (leK rfl) (leK rfl) (fun _ => rfl) (by obtain rfl := Option.some.inj h; exact ⟨rfl, (g_in _ _ _), rfl⟩)
  replace h := ifN h hk1
  by_cases hk2 : a1 = 1
  · have h := ifP h hk2
    refine vg_tabK (pc := 9) (kk := 1) (t := 80) (dK D_FP_count_0 5 rfl) hk2 rfl rfl rfl rfl ?_
    refine g_aloadn (pc := 80) (i0 := 2) (j := 0) (dK D_FP_count_0 10 rfl) rfl rfl ?_
    refine vg_getI (pc := 81) (ci := 8) (f := 4) (dK D_FP_count_0 11 rfl) q_241 (hw_4_0 (hw_10_3 hc0)) (ltK rfl) (ltK rfl) rfl ?_
    exact vg_iretI (pc := 84) (r := (g S (tgt (tgt c0 3) 0) 4)) (dK D_FP_count_0 12 rfl) rfl (leK rfl) (leK rfl) (fun _ => rfl) (by obtain rfl := Option.some.inj h; exact ⟨rfl, (g_in _ _ _), rfl⟩)
  replace h := ifN h hk2
  by_cases hk3 : a1 = 2
  · have h := ifP h hk3
    refine vg_tabK (pc := 9) (kk := 2) (t := 85) (dK D_FP_count_0 5 rfl) hk3 rfl rfl rfl rfl ?_
    refine g_aloadn (pc := 85) (i0 := 0) (j := 1) (dK D_FP_count_0 13 rfl) rfl rfl ?_
    refine vg_getO (pc := 86) (ci := 10) (f := 3) (dK D_FP_count_0 14 rfl) q_425 hc0 (ltK rfl) (ltK rfl) rfl ?_
    refine vg_getI (pc := 89) (ci := 4) (f := 2) (dK D_FP_count_0 15 rfl) q_300 (hw_10_3 hc0) (ltK rfl) (ltK rfl) rfl ?_
    exact vg_iretI (pc := 92) (r := (g S (tgt c0 3) 2)) (dK D_FP_count_0 16 rfl) rfl (leK rfl) (leK rfl) (fun _ => rfl) (by obtain rfl := Option.some.inj h; exact ⟨rfl, (g_in _ _ _), rfl⟩)
  replace h := ifN h hk3
  by_cases hk4 : a1 = 3
  · have h := ifP h hk4
    refine vg_tabK (pc := 9) (kk := 3) (t := 93) (dK D_FP_count_0 5 rfl) hk4 rfl rfl rfl rfl ?_
    refine g_aloadn (pc := 93) (i0 := 2) (j := 0) (dK D_FP_count_0 17 rfl) rfl rfl ?_
    refine vg_getO (pc := 94) (ci := 8) (f := 0) (dK D_FP_count_0 18 rfl) q_224 (hw_4_0 (hw_10_3 hc0)) (ltK rfl) (ltK rfl) rfl ?_
    refine vg_getI (pc := 97) (ci := 0) (f := 7) (dK D_FP_count_0 19 rfl) q_109 (hw_8_0 (hw_4_0 (hw_10_3 hc0))) (ltK rfl) (ltK rfl) rfl ?_
    exact vg_iretI (pc := 100) (r := (g S (tgt (tgt (tgt c0 3) 0) 0) 7)) (dK D_FP_count_0 20 rfl) rfl (leK rfl) (leK rfl) (fun _ => rfl) (by obtain rfl := Option.some.inj h; exact ⟨rfl, (g_in _ _ _), rfl⟩)
  replace h := ifN h hk4
  by_cases hk5 : a1 = 4
  · have h := ifP h hk5
    refine vg_tabK (pc := 9) (kk := 4) (t := 101) (dK D_FP_count_0 5 rfl) hk5 rfl rfl rfl rfl ?_
    refine g_aloadn (pc := 101) (i0 := 2) (j := 0) (dK D_FP_count_0 21 rfl) rfl rfl ?_
    refine vg_getO (pc := 102) (ci := 8) (f := 1) (dK D_FP_count_0 22 rfl) q_229 (hw_4_0 (hw_10_3 hc0)) (ltK rfl) (ltK rfl) rfl ?_
    refine vg_getI (pc := 105) (ci := 9) (f := 5) (dK D_FP_count_0 23 rfl) q_157 (hw_8_1 (hw_4_0 (hw_10_3 hc0))) (ltK rfl) (ltK rfl) rfl ?_
    exact vg_iretI (pc := 108) (r := (g S (tgt (tgt (tgt c0 3) 0) 1) 5)) (dK D_FP_count_0 24 rfl) rfl (leK rfl) (leK rfl) (fun _ => rfl) (by obtain rfl := Option.some.inj h; exact ⟨rfl, (g_in _ _ _), rfl⟩)
  replace h := ifN h hk5
  by_cases hk6 : a1 = 5
  · have h := ifP h hk6
    refine vg_tabK (pc := 9) (kk := 5) (t := 109) (dK D_FP_count_0 5 rfl) hk6 rfl rfl rfl rfl ?_
    refine g_aloadn (pc := 109) (i0 := 2) (j := 0) (dK D_FP_count_0 25 rfl) rfl rfl ?_
    refine vg_getO (pc := 110) (ci := 8) (f := 2) (dK D_FP_count_0 26 rfl) q_232 (hw_4_0 (hw_10_3 hc0)) (ltK rfl) (ltK rfl) rfl ?_
    refine vg_getI (pc := 113) (ci := 7) (f := 2) (dK D_FP_count_0 27 rfl) q_185 (hw_8_2 (hw_4_0 (hw_10_3 hc0))) (ltK rfl) (ltK rfl) rfl ?_
    exact vg_iretI (pc := 116) (r := (g S (tgt (tgt (tgt c0 3) 0) 2) 2)) (dK D_FP_count_0 28 rfl) rfl (leK rfl) (leK rfl) (fun _ => rfl) (by obtain rfl := Option.some.inj h; exact ⟨rfl, (g_in _ _ _), rfl⟩)
  replace h := ifN h hk6
  by_cases hk7 : a1 = 6
  · have h := ifP h hk7
    refine vg_tabK (pc := 9) (kk := 6) (t := 117) (dK D_FP_count_0 5 rfl) hk7 rfl rfl rfl rfl ?_
    refine g_aloadn (pc := 117) (i0 := 2) (j := 0) (dK D_FP_count_0 29 rfl) rfl rfl ?_
    refine vg_getI (pc := 118) (ci := 8) (f := 6) (dK D_FP_count_0 30 rfl) q_247 (hw_4_0 (hw_10_3 hc0)) (ltK rfl) (ltK rfl) rfl ?_
    exact vg_iretI (pc := 121) (r := (g S (tgt (tgt c0 3) 0) 6)) (dK D_FP_count_0 31 rfl) rfl (leK rfl) (leK rfl) (fun _ => rfl) (by obtain rfl := Option.some.inj h; exact ⟨rfl, (g_in _ _ _), rfl⟩)
  replace h := ifN h hk7
  by_cases hk8 : a1 = 7
  · have h := ifP h hk8
    refine vg_tabK (pc := 9) (kk := 7) (t := 122) (dK D_FP_count_0 5 rfl) hk8 rfl rfl rfl rfl ?_
    refine g_aloadn (pc := 122) (i0 := 2) (j := 0) (dK D_FP_count_0 32 rfl) rfl rfl ?_
    refine vg_getO (pc := 123) (ci := 8) (f := 0) (dK D_FP_count_0 33 rfl) q_224 (hw_4_0 (hw_10_3 hc0)) (ltK rfl) (ltK rfl) rfl ?_
    refine vg_getA (pc := 126) (ci := 0) (f := 6) (dK D_FP_count_0 34 rfl) q_103 (hw_8_0 (hw_4_0 (hw_10_3 hc0))) (ltK rfl) (ltK rfl) rfl ?_
    refine g_aloadn (pc := 129) (i0 := 2) (j := 0) (dK D_FP_count_0 35 rfl) rfl rfl ?_
    refine vg_getO (pc := 130) (ci := 8) (f := 0) (dK D_FP_count_0 36 rfl) q_224 (hw_4_0 (hw_10_3 hc0)) (ltK rfl) (ltK rfl) rfl ?_
    refine vg_getI (pc := 133) (ci := 0) (f := 7) (dK D_FP_count_0 37 rfl) q_109 (hw_8_0 (hw_4_0 (hw_10_3 hc0))) (ltK rfl) (ltK rfl) rfl ?_
    refine bnE h (fun p9 e_p9 h => ?_)
    refine vg_cS (pc := 136) (As := [.ref (tgt (tgt (tgt (tgt c0 3) 0) 0) 6), V (g S (tgt (tgt (tgt c0 3) 0) 0) 7)]) (rest := []) (mc' := 0) (ms' := 0) (dK D_FP_count_0 38 rfl) K_FP_124 (fitK rfl) rfl (leK rfl) (leK rfl) (leK rfl) (tf_FP_placed rfl (hw_0_6 (hw_8_0 (hw_4_0 (hw_10_3 hc0)))) (g_in _ _ _) e_p9) (kcI (fun h_p9 => ?_))
    exact vg_iretI (pc := 139) (r := p9) (dK D_FP_count_0 39 rfl) rfl (leK rfl) (leK rfl) (fun _ => rfl) (by obtain rfl := Option.some.inj h; exact ⟨rfl, h_p9, rfl⟩)
  replace h := ifN h hk8
  by_cases hk10 : a1 = 8
  · have h := ifP h hk10
    refine vg_tabK (pc := 9) (kk := 8) (t := 140) (dK D_FP_count_0 5 rfl) hk10 rfl rfl rfl rfl ?_
    refine g_aloadn (pc := 140) (i0 := 2) (j := 0) (dK D_FP_count_0 40 rfl) rfl rfl ?_
    refine vg_getO (pc := 141) (ci := 8) (f := 1) (dK D_FP_count_0 41 rfl) q_229 (hw_4_0 (hw_10_3 hc0)) (ltK rfl) (ltK rfl) rfl ?_
    refine vg_getA (pc := 144) (ci := 9) (f := 4) (dK D_FP_count_0 42 rfl) q_151 (hw_8_1 (hw_4_0 (hw_10_3 hc0))) (ltK rfl) (ltK rfl) rfl ?_
    refine g_aloadn (pc := 147) (i0 := 2) (j := 0) (dK D_FP_count_0 43 rfl) rfl rfl ?_
    refine vg_getO (pc := 148) (ci := 8) (f := 1) (dK D_FP_count_0 44 rfl) q_229 (hw_4_0 (hw_10_3 hc0)) (ltK rfl) (ltK rfl) rfl ?_
    refine vg_getI (pc := 151) (ci := 9) (f := 5) (dK D_FP_count_0 45 rfl) q_157 (hw_8_1 (hw_4_0 (hw_10_3 hc0))) (ltK rfl) (ltK rfl) rfl ?_
    refine bnE h (fun p11 e_p11 h => ?_)
    refine vg_cS (pc := 154) (As := [.ref (tgt (tgt (tgt (tgt c0 3) 0) 1) 4), V (g S (tgt (tgt (tgt c0 3) 0) 1) 5)]) (rest := []) (mc' := 0) (ms' := 0) (dK D_FP_count_0 46 rfl) K_FP_124 (fitK rfl) rfl (leK rfl) (leK rfl) (leK rfl) (tf_FP_placed rfl (hw_9_4 (hw_8_1 (hw_4_0 (hw_10_3 hc0)))) (g_in _ _ _) e_p11) (kcI (fun h_p11 => ?_))
    exact vg_iretI (pc := 157) (r := p11) (dK D_FP_count_0 47 rfl) rfl (leK rfl) (leK rfl) (fun _ => rfl) (by obtain rfl := Option.some.inj h; exact ⟨rfl, h_p11, rfl⟩)
  replace h := ifN h hk10
  by_cases hk12 : a1 = 9
  · have h := ifP h hk12
    refine vg_tabK (pc := 9) (kk := 9) (t := 158) (dK D_FP_count_0 5 rfl) hk12 rfl rfl rfl rfl ?_
    refine g_aloadn (pc := 158) (i0 := 2) (j := 0) (dK D_FP_count_0 48 rfl) rfl rfl ?_
    refine vg_getO (pc := 159) (ci := 8) (f := 2) (dK D_FP_count_0 49 rfl) q_232 (hw_4_0 (hw_10_3 hc0)) (ltK rfl) (ltK rfl) rfl ?_
    refine vg_getA (pc := 162) (ci := 7) (f := 1) (dK D_FP_count_1 0 rfl) q_182 (hw_8_2 (hw_4_0 (hw_10_3 hc0))) (ltK rfl) (ltK rfl) rfl ?_
    refine g_aloadn (pc := 165) (i0 := 2) (j := 0) (dK D_FP_count_1 1 rfl) rfl rfl ?_
    refine vg_getO (pc := 166) (ci := 8) (f := 2) (dK D_FP_count_1 2 rfl) q_232 (hw_4_0 (hw_10_3 hc0)) (ltK rfl) (ltK rfl) rfl ?_
    refine vg_getI (pc := 169) (ci := 7) (f := 2) (dK D_FP_count_1 3 rfl) q_185 (hw_8_2 (hw_4_0 (hw_10_3 hc0))) (ltK rfl) (ltK rfl) rfl ?_
    refine bnE h (fun p13 e_p13 h => ?_)
    refine vg_cS (pc := 172) (As := [.ref (tgt (tgt (tgt (tgt c0 3) 0) 2) 1), V (g S (tgt (tgt (tgt c0 3) 0) 2) 2)]) (rest := []) (mc' := 0) (ms' := 0) (dK D_FP_count_1 4 rfl) K_FP_124 (fitK rfl) rfl (leK rfl) (leK rfl) (leK rfl) (tf_FP_placed rfl (hw_7_1 (hw_8_2 (hw_4_0 (hw_10_3 hc0)))) (g_in _ _ _) e_p13) (kcI (fun h_p13 => ?_))
    exact vg_iretI (pc := 175) (r := p13) (dK D_FP_count_1 5 rfl) rfl (leK rfl) (leK rfl) (fun _ => rfl) (by obtain rfl := Option.some.inj h; exact ⟨rfl, h_p13, rfl⟩)
  replace h := ifN h hk12
  by_cases hk14 : a1 = 10
  · have h := ifP h hk14
    refine vg_tabK (pc := 9) (kk := 10) (t := 176) (dK D_FP_count_0 5 rfl) hk14 rfl rfl rfl rfl ?_
    refine g_aloadn (pc := 176) (i0 := 2) (j := 0) (dK D_FP_count_1 6 rfl) rfl rfl ?_
    refine vg_getO (pc := 177) (ci := 8) (f := 3) (dK D_FP_count_1 7 rfl) q_237 (hw_4_0 (hw_10_3 hc0)) (ltK rfl) (ltK rfl) rfl ?_
    refine vg_getA (pc := 180) (ci := 2) (f := 1) (dK D_FP_count_1 8 rfl) q_207 (hw_8_3 (hw_4_0 (hw_10_3 hc0))) (ltK rfl) (ltK rfl) rfl ?_
    refine g_aloadn (pc := 183) (i0 := 0) (j := 1) (dK D_FP_count_1 9 rfl) rfl rfl ?_
    refine vg_getO (pc := 184) (ci := 10) (f := 3) (dK D_FP_count_1 10 rfl) q_425 hc0 (ltK rfl) (ltK rfl) rfl ?_
    refine vg_getI (pc := 187) (ci := 4) (f := 2) (dK D_FP_count_1 11 rfl) q_300 (hw_10_3 hc0) (ltK rfl) (ltK rfl) rfl ?_
    refine bnE h (fun p15 e_p15 h => ?_)
    refine vg_cS (pc := 190) (As := [.ref (tgt (tgt (tgt (tgt c0 3) 0) 3) 1), V (g S (tgt c0 3) 2)]) (rest := []) (mc' := 0) (ms' := 0) (dK D_FP_count_1 12 rfl) K_FP_124 (fitK rfl) rfl (leK rfl) (leK rfl) (leK rfl) (tf_FP_placed rfl (hw_2_1 (hw_8_3 (hw_4_0 (hw_10_3 hc0)))) (g_in _ _ _) e_p15) (kcI (fun h_p15 => ?_))
    exact vg_iretI (pc := 193) (r := p15) (dK D_FP_count_1 13 rfl) rfl (leK rfl) (leK rfl) (fun _ => rfl) (by obtain rfl := Option.some.inj h; exact ⟨rfl, h_p15, rfl⟩)
  replace h := ifN h hk14
  by_cases hk16 : a1 = 11
  · have h := ifP h hk16
    refine vg_tabK (pc := 9) (kk := 11) (t := 194) (dK D_FP_count_0 5 rfl) hk16 rfl rfl rfl rfl ?_
    refine g_aloadn (pc := 194) (i0 := 2) (j := 0) (dK D_FP_count_1 14 rfl) rfl rfl ?_
    refine vg_getO (pc := 195) (ci := 8) (f := 3) (dK D_FP_count_1 15 rfl) q_237 (hw_4_0 (hw_10_3 hc0)) (ltK rfl) (ltK rfl) rfl ?_
    refine vg_getA (pc := 198) (ci := 2) (f := 0) (dK D_FP_count_1 16 rfl) q_203 (hw_8_3 (hw_4_0 (hw_10_3 hc0))) (ltK rfl) (ltK rfl) rfl ?_
    refine g_aloadn (pc := 201) (i0 := 0) (j := 1) (dK D_FP_count_1 17 rfl) rfl rfl ?_
    refine vg_getO (pc := 202) (ci := 10) (f := 3) (dK D_FP_count_1 18 rfl) q_425 hc0 (ltK rfl) (ltK rfl) rfl ?_
    refine vg_getI (pc := 205) (ci := 4) (f := 2) (dK D_FP_count_1 19 rfl) q_300 (hw_10_3 hc0) (ltK rfl) (ltK rfl) rfl ?_
    refine bnE h (fun p17 e_p17 h => ?_)
    refine vg_cS (pc := 208) (As := [.ref (tgt (tgt (tgt (tgt c0 3) 0) 3) 0), V (g S (tgt c0 3) 2)]) (rest := []) (mc' := 0) (ms' := 0) (dK D_FP_count_1 20 rfl) K_FP_124 (fitK rfl) rfl (leK rfl) (leK rfl) (leK rfl) (tf_FP_placed rfl (hw_2_0 (hw_8_3 (hw_4_0 (hw_10_3 hc0)))) (g_in _ _ _) e_p17) (kcI (fun h_p17 => ?_))
    exact vg_iretI (pc := 211) (r := p17) (dK D_FP_count_1 21 rfl) rfl (leK rfl) (leK rfl) (fun _ => rfl) (by obtain rfl := Option.some.inj h; exact ⟨rfl, h_p17, rfl⟩)
  replace h := ifN h hk16
  refine vg_tabD (pc := 9) (t := 212) (lo := 0) (hi := 11) (dK D_FP_count_0 5 rfl) ha1 (by omega) rfl ?_
  refine vg_iconst (pc := 212) (dK D_FP_count_1 22 rfl) ?_
  exact vg_iretI (pc := 213) (r := (-1)) (dK D_FP_count_1 23 rfl) rfl (leK rfl) (leK rfl) (fun _ => rfl) (by obtain rfl := Option.some.inj h; exact ⟨rfl, (inRk rfl), rfl⟩)
def lb_Plan_soonestForm_4 (c0 : Nat) (S : St) (go : Int × Int → Option (Int)) (a1 : Int) (a2 : Int) : Option (Int) := if (g S c0 2) ≤ a2 then (some a1) else (if 0 ≤ a2 ∧ a2 < 8 then (if (g S (tgt (tgt (tgt c0 0) 3) 1) a2.toNat) = 0 then (if (g S (tgt (tgt (tgt c0 0) 3) 2) a2.toNat) = 0 then (nm (wr (a2 + 1)) fun v3 => go (a1, v3)) else (if a1 = (-1) then (nm (wr (a2 + 1)) fun v4 => go (a2, v4)) else (if 0 ≤ a1 ∧ a1 < 8 then (if (g S (tgt (tgt (tgt c0 0) 3) 2) a1.toNat) ≤ (g S (tgt (tgt (tgt c0 0) 3) 2) a2.toNat) then (nm (wr (a2 + 1)) fun v6 => go (a1, v6)) else (nm (wr (a2 + 1)) fun v7 => go (a2, v7))) else none))) else (nm (wr (a2 + 1)) fun v2 => go (a1, v2))) else none)
def lo_Plan_soonestForm_4 (c0 : Nat) (S : St) : Nat → Int × Int → Option (Int) := lp fun go p => lb_Plan_soonestForm_4 c0 S go p.1 p.2
theorem tl_Plan_soonestForm_4 {E : EV} {X : XT} {c0 : Nat} (hc0 : HC X 4 c0) {S : St} {K : RK → PS → Prop} {q : Int} (hx : inR q → Go E M_Plan_soonestForm 0 0 73 [(1, V q)] [] (WX X S) 0 0 K) : ∀ n a, lo_Plan_soonestForm_4 c0 S n a = some q → inR a.1 → inR a.2 → Go E M_Plan_soonestForm 0 0 4 [(0, .ref c0), (1, V a.1), (2, V a.2)] [] (WX X S) 0 0 K := by
  refine lp_ind (P := fun a : Int × Int => inR a.1 → inR a.2 → Go E M_Plan_soonestForm 0 0 4 [(0, .ref c0), (1, V a.1), (2, V a.2)] [] (WX X S) 0 0 K) (fun go ih a h => ?_)
  obtain ⟨a1, a2⟩ := a
  intro ha1 ha2
  show Go E M_Plan_soonestForm 0 0 4 [(0, .ref c0), (1, V a1), (2, V a2)] [] (WX X S) 0 0 K
  replace h : lb_Plan_soonestForm_4 c0 S go a1 a2 = some q := h
  unfold lb_Plan_soonestForm_4 at h
  refine g_iloadn (pc := 4) (i0 := 2) (j := 2) (dK D_Plan_soonestForm 4 rfl) rfl rfl ?_
  refine g_aloadn (pc := 5) (i0 := 0) (j := 0) (dK D_Plan_soonestForm 5 rfl) rfl rfl ?_
  refine vg_getI (pc := 6) (ci := 4) (f := 2) (dK D_Plan_soonestForm 6 rfl) q_298 hc0 (ltK rfl) (ltK rfl) rfl ?_
  refine vg_icmp_ge (pc := 9) (t := 73) (dK D_Plan_soonestForm 7 rfl) rfl ha2 (g_in _ _ _) (fun hc12 => ?_) (fun hc12 => ?_)
  · replace h := ifP h hc12
    obtain rfl := Option.some.inj h
    refine gL_weak (ls' := [(1, V a1)]) (sbc 1 rfl sbn) ?_
    exact hx ha1
  · replace h := ifN h hc12
    refine g_aloadn (pc := 12) (i0 := 0) (j := 0) (dK D_Plan_soonestForm 8 rfl) rfl rfl ?_
    refine vg_getO (pc := 13) (ci := 4) (f := 0) (dK D_Plan_soonestForm 9 rfl) q_290 hc0 (ltK rfl) (ltK rfl) rfl ?_
    refine vg_getO (pc := 16) (ci := 8) (f := 3) (dK D_Plan_soonestForm 10 rfl) q_235 (hw_4_0 hc0) (ltK rfl) (ltK rfl) rfl ?_
    refine vg_getA (pc := 19) (ci := 2) (f := 2) (dK D_Plan_soonestForm 11 rfl) q_210 (hw_8_3 (hw_4_0 hc0)) (ltK rfl) (ltK rfl) rfl ?_
    refine g_iloadn (pc := 22) (i0 := 2) (j := 2) (dK D_Plan_soonestForm 12 rfl) rfl rfl ?_
    refine gdE h (fun hi1 h => ?_)
    refine vg_iaload (pc := 23) (j := a2.toNat) (dK D_Plan_soonestForm 13 rfl) (hw_2_2 (hw_8_3 (hw_4_0 hc0))) rfl hi1 rfl ?_
    refine g_istoren (pc := 24) (i0 := 3) (ls2 := [(3, V (g S (tgt (tgt (tgt c0 0) 3) 2) a2.toNat)), (0, .ref c0), (1, V a1), (2, V a2)]) (dK D_Plan_soonestForm 14 rfl) rfl (ltK rfl) rfl ?_
    refine g_aloadn (pc := 25) (i0 := 0) (j := 1) (dK D_Plan_soonestForm 15 rfl) rfl rfl ?_
    refine vg_getO (pc := 26) (ci := 4) (f := 0) (dK D_Plan_soonestForm 16 rfl) q_290 hc0 (ltK rfl) (ltK rfl) rfl ?_
    refine vg_getO (pc := 29) (ci := 8) (f := 3) (dK D_Plan_soonestForm 17 rfl) q_235 (hw_4_0 hc0) (ltK rfl) (ltK rfl) rfl ?_
    refine vg_getA (pc := 32) (ci := 2) (f := 1) (dK D_Plan_soonestForm 18 rfl) q_206 (hw_8_3 (hw_4_0 hc0)) (ltK rfl) (ltK rfl) rfl ?_
    refine g_iloadn (pc := 35) (i0 := 2) (j := 3) (dK D_Plan_soonestForm 19 rfl) rfl rfl ?_
    refine vg_iaload (pc := 36) (j := a2.toNat) (dK D_Plan_soonestForm 20 rfl) (hw_2_1 (hw_8_3 (hw_4_0 hc0))) rfl hi1 rfl ?_
    refine vg_if_ne (pc := 37) (t := 67) (dK D_Plan_soonestForm 21 rfl) rfl (g_in _ _ _) (fun hc11 => ?_) (fun hc11 => ?_)
    · replace h := ifN h hc11
      refine nmE h (fun v2 e_v2 h => ?_)
      refine vg_iinc (pc := 67) (j := 3) (a := a2) (z := 1) (ls2 := [(2, V v2), (3, V (g S (tgt (tgt (tgt c0 0) 3) 2) a2.toNat)), (0, .ref c0), (1, V a1)]) (dK D_Plan_soonestForm 37 rfl) rfl e_v2 (ltK rfl) rfl ?_
      refine g_goto (pc := 70) (tgt := 4) (dK D_Plan_soonestForm 38 rfl) rfl ?_
      refine gL_weak (ls' := [(0, .ref c0), (1, V a1), (2, V v2)]) (sbc 2 rfl (sbc 3 rfl (sbc 0 rfl sbn))) ?_
      replace h := ih _ h
      exact h ha1 (Vn_in e_v2)
    · replace h := ifP h hc11
      refine g_iloadn (pc := 40) (i0 := 3) (j := 0) (dK D_Plan_soonestForm 22 rfl) rfl rfl ?_
      refine vg_if_eq (pc := 41) (t := 67) (dK D_Plan_soonestForm 23 rfl) rfl (g_in _ _ _) (fun hc10 => ?_) (fun hc10 => ?_)
      · replace h := ifP h hc10
        refine nmE h (fun v3 e_v3 h => ?_)
        refine vg_iinc (pc := 67) (j := 3) (a := a2) (z := 1) (ls2 := [(2, V v3), (3, V (g S (tgt (tgt (tgt c0 0) 3) 2) a2.toNat)), (0, .ref c0), (1, V a1)]) (dK D_Plan_soonestForm 37 rfl) rfl e_v3 (ltK rfl) rfl ?_
        refine g_goto (pc := 70) (tgt := 4) (dK D_Plan_soonestForm 38 rfl) rfl ?_
        refine gL_weak (ls' := [(0, .ref c0), (1, V a1), (2, V v3)]) (sbc 2 rfl (sbc 3 rfl (sbc 0 rfl sbn))) ?_
        replace h := ih _ h
        exact h ha1 (Vn_in e_v3)
      · replace h := ifN h hc10
        refine g_iloadn (pc := 44) (i0 := 1) (j := 2) (dK D_Plan_soonestForm 24 rfl) rfl rfl ?_
        refine vg_iconst (pc := 45) (dK D_Plan_soonestForm 25 rfl) ?_
        refine vg_icmp_eq (pc := 46) (t := 65) (dK D_Plan_soonestForm 26 rfl) rfl ha1 (inRk rfl) (fun hc9 => ?_) (fun hc9 => ?_)
        · replace h := ifP h hc9
          refine g_iloadn (pc := 65) (i0 := 2) (j := 3) (dK D_Plan_soonestForm 35 rfl) rfl rfl ?_
          refine g_istoren (pc := 66) (i0 := 1) (ls2 := [(1, V a2), (3, V (g S (tgt (tgt (tgt c0 0) 3) 2) a2.toNat)), (0, .ref c0), (2, V a2)]) (dK D_Plan_soonestForm 36 rfl) rfl (ltK rfl) rfl ?_
          refine nmE h (fun v4 e_v4 h => ?_)
          refine vg_iinc (pc := 67) (j := 3) (a := a2) (z := 1) (ls2 := [(2, V v4), (1, V a2), (3, V (g S (tgt (tgt (tgt c0 0) 3) 2) a2.toNat)), (0, .ref c0)]) (dK D_Plan_soonestForm 37 rfl) rfl e_v4 (ltK rfl) rfl ?_
          refine g_goto (pc := 70) (tgt := 4) (dK D_Plan_soonestForm 38 rfl) rfl ?_
          refine gL_weak (ls' := [(0, .ref c0), (1, V a2), (2, V v4)]) (sbc 3 rfl (sbc 1 rfl (sbc 0 rfl sbn))) ?_
          replace h := ih _ h
          exact h ha2 (Vn_in e_v4)
        · replace h := ifN h hc9
          refine g_iloadn (pc := 49) (i0 := 3) (j := 0) (dK D_Plan_soonestForm 27 rfl) rfl rfl ?_
          refine g_aloadn (pc := 50) (i0 := 0) (j := 1) (dK D_Plan_soonestForm 28 rfl) rfl rfl ?_
          refine vg_getO (pc := 51) (ci := 4) (f := 0) (dK D_Plan_soonestForm 29 rfl) q_290 hc0 (ltK rfl) (ltK rfl) rfl ?_
          refine vg_getO (pc := 54) (ci := 8) (f := 3) (dK D_Plan_soonestForm 30 rfl) q_235 (hw_4_0 hc0) (ltK rfl) (ltK rfl) rfl ?_
          refine vg_getA (pc := 57) (ci := 2) (f := 2) (dK D_Plan_soonestForm 31 rfl) q_210 (hw_8_3 (hw_4_0 hc0)) (ltK rfl) (ltK rfl) rfl ?_
          refine g_iloadn (pc := 60) (i0 := 1) (j := 2) (dK D_Plan_soonestForm 32 rfl) rfl rfl ?_
          refine gdE h (fun hi5 h => ?_)
          refine vg_iaload (pc := 61) (j := a1.toNat) (dK D_Plan_soonestForm 33 rfl) (hw_2_2 (hw_8_3 (hw_4_0 hc0))) rfl hi5 rfl ?_
          refine vg_icmp_ge (pc := 62) (t := 67) (dK D_Plan_soonestForm 34 rfl) rfl (g_in _ _ _) (g_in _ _ _) (fun hc8 => ?_) (fun hc8 => ?_)
          · replace h := ifP h hc8
            refine nmE h (fun v6 e_v6 h => ?_)
            refine vg_iinc (pc := 67) (j := 3) (a := a2) (z := 1) (ls2 := [(2, V v6), (3, V (g S (tgt (tgt (tgt c0 0) 3) 2) a2.toNat)), (0, .ref c0), (1, V a1)]) (dK D_Plan_soonestForm 37 rfl) rfl e_v6 (ltK rfl) rfl ?_
            refine g_goto (pc := 70) (tgt := 4) (dK D_Plan_soonestForm 38 rfl) rfl ?_
            refine gL_weak (ls' := [(0, .ref c0), (1, V a1), (2, V v6)]) (sbc 2 rfl (sbc 3 rfl (sbc 0 rfl sbn))) ?_
            replace h := ih _ h
            exact h ha1 (Vn_in e_v6)
          · replace h := ifN h hc8
            refine g_iloadn (pc := 65) (i0 := 2) (j := 3) (dK D_Plan_soonestForm 35 rfl) rfl rfl ?_
            refine g_istoren (pc := 66) (i0 := 1) (ls2 := [(1, V a2), (3, V (g S (tgt (tgt (tgt c0 0) 3) 2) a2.toNat)), (0, .ref c0), (2, V a2)]) (dK D_Plan_soonestForm 36 rfl) rfl (ltK rfl) rfl ?_
            refine nmE h (fun v7 e_v7 h => ?_)
            refine vg_iinc (pc := 67) (j := 3) (a := a2) (z := 1) (ls2 := [(2, V v7), (1, V a2), (3, V (g S (tgt (tgt (tgt c0 0) 3) 2) a2.toNat)), (0, .ref c0)]) (dK D_Plan_soonestForm 37 rfl) rfl e_v7 (ltK rfl) rfl ?_
            refine g_goto (pc := 70) (tgt := 4) (dK D_Plan_soonestForm 38 rfl) rfl ?_
            refine gL_weak (ls' := [(0, .ref c0), (1, V a2), (2, V v7)]) (sbc 3 rfl (sbc 1 rfl (sbc 0 rfl sbn))) ?_
            replace h := ih _ h
            exact h ha2 (Vn_in e_v7)
def fn_Plan_soonestForm (c0 : Nat) (S : St) : Option (Int) := bnO (lo_Plan_soonestForm_4 c0 S FU ((-1), 0)) fun p13 => some p13
theorem tf_Plan_soonestForm {E : EV} {X : XT} {c0 : Nat} (hc0 : HC X 4 c0) {S : St} {q : Int} (h : fn_Plan_soonestForm c0 S = some q) : Ev E M_Plan_soonestForm [.ref c0] (WX X S) 0 0 (KI X q S) := by
  refine Ev.of pn_Plan rfl (leK rfl) ?_
  show Go E M_Plan_soonestForm 0 0 0 [(0, .ref c0)] [] (WX X S) 0 0 (KI X q S)
  unfold fn_Plan_soonestForm at h
  refine vg_iconst (pc := 0) (dK D_Plan_soonestForm 0 rfl) ?_
  refine g_istoren (pc := 1) (i0 := 1) (ls2 := [(1, V (-1)), (0, .ref c0)]) (dK D_Plan_soonestForm 1 rfl) rfl (ltK rfl) rfl ?_
  refine vg_iconst (pc := 2) (dK D_Plan_soonestForm 2 rfl) ?_
  refine g_istoren (pc := 3) (i0 := 2) (ls2 := [(2, V 0), (1, V (-1)), (0, .ref c0)]) (dK D_Plan_soonestForm 3 rfl) rfl (ltK rfl) rfl ?_
  refine bnE h (fun p13 e_p13 h => ?_)
  refine gL_weak (ls' := [(0, .ref c0), (1, V (-1)), (2, V 0)]) (sbc 2 rfl (sbc 1 rfl (sbc 0 rfl sbn))) ?_
  refine tl_Plan_soonestForm_4 hc0 (fun hx1_p13 => ?_) FU ((-1), 0) e_p13 (inRk rfl) (inRk rfl)
  refine g_iloadn (pc := 73) (i0 := 1) (j := 0) (dK D_Plan_soonestForm 39 rfl) rfl rfl ?_
  exact vg_iretI (pc := 74) (r := p13) (dK D_Plan_soonestForm 40 rfl) rfl (leK rfl) (leK rfl) (fun _ => rfl) (by obtain rfl := Option.some.inj h; exact ⟨rfl, hx1_p13, rfl⟩)
def fn_FP_nextClosing (c0 : Nat) (S : St) : Option (Int) := bnO (fn_Plan_soonestForm (tgt c0 3) S) fun p1 => some p1
theorem tf_FP_nextClosing {E : EV} {X : XT} {c0 : Nat} (hc0 : HC X 10 c0) {S : St} {q : Int} (h : fn_FP_nextClosing c0 S = some q) : Ev E M_FP_nextClosing [.ref c0] (WX X S) 0 0 (KI X q S) := by
  refine Ev.of pn_FP rfl (leK rfl) ?_
  show Go E M_FP_nextClosing 0 0 0 [(0, .ref c0)] [] (WX X S) 0 0 (KI X q S)
  unfold fn_FP_nextClosing at h
  refine g_aloadn (pc := 0) (i0 := 0) (j := 0) (dK D_FP_nextClosing 0 rfl) rfl rfl ?_
  refine vg_getO (pc := 1) (ci := 10) (f := 3) (dK D_FP_nextClosing 1 rfl) q_425 hc0 (ltK rfl) (ltK rfl) rfl ?_
  refine bnE h (fun p1 e_p1 h => ?_)
  refine vg_cV (pc := 4) (As := []) (rest := []) (mc' := 0) (ms' := 0) (dK D_FP_nextClosing 2 rfl) K_FP_277 (fitK rfl) (ltK rfl) (hw_10_3 hc0) rfl (leK rfl) (leK rfl) (leK rfl) (tf_Plan_soonestForm (hw_10_3 hc0) e_p1) (kcI (fun h_p1 => ?_))
  exact vg_iretI (pc := 7) (r := p1) (dK D_FP_nextClosing 3 rfl) rfl (leK rfl) (leK rfl) (fun _ => rfl) (by obtain rfl := Option.some.inj h; exact ⟨rfl, h_p1, rfl⟩)
def fn_History_keep (c0 : Nat) (c1 : Nat) (S : St) : Option (St) := if 0 ≤ (g S c0 1) ∧ (g S c0 1) < 20 then (bnO (fn_State_copyFrom (tgt (tgt c0 0) (((g S c0 1)).toNat)) c1 S) fun p2 => nm (wr ((g p2 c0 1) + 1)) fun v3 => if 20 ≤ v3 then (nm (u p2 c0 1 0) fun S4 => nm (wr ((g S4 c0 2) + 1)) fun v5 => nm (u S4 c0 2 (i_min v5 20)) fun S6 => some S6) else (nm (u p2 c0 1 ((g p2 c0 1) + 1)) fun S7 => nm (wr ((g S7 c0 2) + 1)) fun v8 => nm (u S7 c0 2 (i_min v8 20)) fun S9 => some S9)) else none
theorem tf_History_keep {E : EV} {X : XT} {c0 : Nat} (hc0 : HC X 3 c0) {c1 : Nat} (hc1 : HC X 8 c1) {S : St} {q : St} (h : fn_History_keep c0 c1 S = some q) : Ev E M_History_keep [.ref c0, .ref c1] (WX X S) 0 0 (KU X q) := by
  refine Ev.of pn_History rfl (leK rfl) ?_
  show Go E M_History_keep 0 0 0 [(0, .ref c0), (1, .ref c1)] [] (WX X S) 0 0 (KU X q)
  unfold fn_History_keep at h
  refine g_aloadn (pc := 0) (i0 := 0) (j := 0) (dK D_History_keep 0 rfl) rfl rfl ?_
  refine vg_getA (pc := 1) (ci := 3) (f := 0) (dK D_History_keep 1 rfl) q_409 hc0 (ltK rfl) (ltK rfl) rfl ?_
  refine g_aloadn (pc := 4) (i0 := 0) (j := 0) (dK D_History_keep 2 rfl) rfl rfl ?_
  refine vg_getI (pc := 5) (ci := 3) (f := 1) (dK D_History_keep 3 rfl) q_410 hc0 (ltK rfl) (ltK rfl) rfl ?_
  refine gdE h (fun hi1 h => ?_)
  refine vg_aaload (pc := 8) (j := ((g S c0 1)).toNat) (dK D_History_keep 4 rfl) (hw_3_0 hc0) rfl hi1 rfl ?_
  refine g_aloadn (pc := 9) (i0 := 1) (j := 1) (dK D_History_keep 5 rfl) rfl rfl ?_
  refine bnE h (fun p2 e_p2 h => ?_)
  refine vg_cV (pc := 10) (As := [.ref c1]) (rest := []) (mc' := 0) (ms' := 0) (dK D_History_keep 6 rfl) K_History_22 (fitK rfl) (ltK rfl) (hw_kept (hw_3_0 hc0) (ix_lt hi1)) rfl (leK rfl) (leK rfl) (leK rfl) (tf_State_copyFrom (hw_kept (hw_3_0 hc0) (ix_lt hi1)) hc1 e_p2) (kcU ?_)
  refine g_aloadn (pc := 13) (i0 := 0) (j := 0) (dK D_History_keep 7 rfl) rfl rfl ?_
  refine g_aloadn (pc := 14) (i0 := 0) (j := 0) (dK D_History_keep 8 rfl) rfl rfl ?_
  refine vg_getI (pc := 15) (ci := 3) (f := 1) (dK D_History_keep 9 rfl) q_410 hc0 (ltK rfl) (ltK rfl) rfl ?_
  refine vg_iconst (pc := 18) (dK D_History_keep 10 rfl) ?_
  refine vg_iadd (pc := 19) (dK D_History_keep 11 rfl) ?_
  refine vg_bipush (pc := 20) (dK D_History_keep 12 rfl) rfl ?_
  refine nmE h (fun v3 e_v3 h => ?_)
  refine gsk (st' := [V 20, V v3, .ref c0]) (by rw [Vn e_v3]) ?_
  refine vg_icmp_ge (pc := 22) (t := 34) (dK D_History_keep 13 rfl) rfl (Vn_in e_v3) (inRk rfl) (fun hc10 => ?_) (fun hc10 => ?_)
  · replace h := ifP h hc10
    refine vg_iconst (pc := 34) (dK D_History_keep 19 rfl) ?_
    refine nmE h (fun S4 e_S4 h => ?_)
    refine vg_putI (pc := 35) (ci := 3) (f := 1) (z := 0) (dK D_History_keep 20 rfl) q_410 hc0 (ltK rfl) (ltK rfl) rfl rfl e_S4 ?_
    refine g_aloadn (pc := 38) (i0 := 0) (j := 0) (dK D_History_keep 21 rfl) rfl rfl ?_
    refine g_aloadn (pc := 39) (i0 := 0) (j := 0) (dK D_History_keep 22 rfl) rfl rfl ?_
    refine vg_getI (pc := 40) (ci := 3) (f := 2) (dK D_History_keep 23 rfl) q_411 hc0 (ltK rfl) (ltK rfl) rfl ?_
    refine vg_iconst (pc := 43) (dK D_History_keep 24 rfl) ?_
    refine vg_iadd (pc := 44) (dK D_History_keep 25 rfl) ?_
    refine vg_bipush (pc := 45) (dK D_History_keep 26 rfl) rfl ?_
    refine nmE h (fun v5 e_v5 h => ?_)
    refine gsk (st' := [V 20, V v5, .ref c0]) (by rw [Vn e_v5]) ?_
    refine vg_mmin (pc := 47) (dK D_History_keep 27 rfl) q_713 (leK rfl) (leK rfl) (leK rfl) (leK rfl) (Vn_in e_v5) (inRk rfl) ?_
    refine nmE h (fun S6 e_S6 h => ?_)
    refine vg_putI (pc := 50) (ci := 3) (f := 2) (z := (i_min v5 20)) (dK D_History_keep 28 rfl) q_411 hc0 (ltK rfl) (ltK rfl) rfl rfl e_S6 ?_
    exact g_return (pc := 53) (dK D_History_keep 29 rfl) rfl (leK rfl) (leK rfl) (fun _ => rfl) (by obtain rfl := Option.some.inj h; exact ⟨rfl, rfl⟩)
  · replace h := ifN h hc10
    refine g_aloadn (pc := 25) (i0 := 0) (j := 0) (dK D_History_keep 14 rfl) rfl rfl ?_
    refine vg_getI (pc := 26) (ci := 3) (f := 1) (dK D_History_keep 15 rfl) q_410 hc0 (ltK rfl) (ltK rfl) rfl ?_
    refine vg_iconst (pc := 29) (dK D_History_keep 16 rfl) ?_
    refine vg_iadd (pc := 30) (dK D_History_keep 17 rfl) ?_
    refine g_goto (pc := 31) (tgt := 35) (dK D_History_keep 18 rfl) rfl ?_
    refine nmE h (fun S7 e_S7 h => ?_)
    refine vg_putI (pc := 35) (ci := 3) (f := 1) (z := ((g p2 c0 1) + 1)) (dK D_History_keep 20 rfl) q_410 hc0 (ltK rfl) (ltK rfl) rfl rfl e_S7 ?_
    refine g_aloadn (pc := 38) (i0 := 0) (j := 0) (dK D_History_keep 21 rfl) rfl rfl ?_
    refine g_aloadn (pc := 39) (i0 := 0) (j := 0) (dK D_History_keep 22 rfl) rfl rfl ?_
    refine vg_getI (pc := 40) (ci := 3) (f := 2) (dK D_History_keep 23 rfl) q_411 hc0 (ltK rfl) (ltK rfl) rfl ?_
    refine vg_iconst (pc := 43) (dK D_History_keep 24 rfl) ?_
    refine vg_iadd (pc := 44) (dK D_History_keep 25 rfl) ?_
    refine vg_bipush (pc := 45) (dK D_History_keep 26 rfl) rfl ?_
    refine nmE h (fun v8 e_v8 h => ?_)
    refine gsk (st' := [V 20, V v8, .ref c0]) (by rw [Vn e_v8]) ?_
    refine vg_mmin (pc := 47) (dK D_History_keep 27 rfl) q_713 (leK rfl) (leK rfl) (leK rfl) (leK rfl) (Vn_in e_v8) (inRk rfl) ?_
    refine nmE h (fun S9 e_S9 h => ?_)
    refine vg_putI (pc := 50) (ci := 3) (f := 2) (z := (i_min v8 20)) (dK D_History_keep 28 rfl) q_411 hc0 (ltK rfl) (ltK rfl) rfl rfl e_S9 ?_
    exact g_return (pc := 53) (dK D_History_keep 29 rfl) rfl (leK rfl) (leK rfl) (fun _ => rfl) (by obtain rfl := Option.some.inj h; exact ⟨rfl, rfl⟩)
def fn_Searches_comesBefore (c0 : Nat) (a1 : Int) (a2 : Int) (S : St) : Option (Bool) := if 0 ≤ a1 ∧ a1 < 40 then (if 0 ≤ a2 ∧ a2 < 40 then (if (g S (tgt (tgt (tgt c0 1) 0) 4) a1.toNat) = (g S (tgt (tgt (tgt c0 1) 0) 4) a2.toNat) then (if (g S (tgt (tgt (tgt c0 1) 0) 0) a1.toNat) ≤ (g S (tgt (tgt (tgt c0 1) 0) 0) a2.toNat) then (some false) else (some true)) else (if (g S (tgt (tgt (tgt c0 1) 0) 4) a1.toNat) ≤ (g S (tgt (tgt (tgt c0 1) 0) 4) a2.toNat) then (some false) else (some true))) else none) else none
theorem tf_Searches_comesBefore {E : EV} {X : XT} {c0 : Nat} (hc0 : HC X 6 c0) {a1 : Int} (ha1 : inR a1) {a2 : Int} (ha2 : inR a2) {S : St} {q : Bool} (h : fn_Searches_comesBefore c0 a1 a2 S = some q) : Ev E M_Searches_comesBefore [.ref c0, V a1, V a2] (WX X S) 0 0 (KB X q S) := by
  refine Ev.of pn_Searches rfl (leK rfl) ?_
  show Go E M_Searches_comesBefore 0 0 0 [(0, .ref c0), (1, V a1), (2, V a2)] [] (WX X S) 0 0 (KB X q S)
  unfold fn_Searches_comesBefore at h
  refine g_aloadn (pc := 0) (i0 := 0) (j := 0) (dK D_Searches_comesBefore 0 rfl) rfl rfl ?_
  refine vg_getO (pc := 1) (ci := 6) (f := 1) (dK D_Searches_comesBefore 1 rfl) q_370 hc0 (ltK rfl) (ltK rfl) rfl ?_
  refine vg_getO (pc := 4) (ci := 8) (f := 0) (dK D_Searches_comesBefore 2 rfl) q_221 (hw_6_1 hc0) (ltK rfl) (ltK rfl) rfl ?_
  refine g_astoren (pc := 7) (i0 := 3) (ls2 := [(3, .ref (tgt (tgt c0 1) 0)), (0, .ref c0), (1, V a1), (2, V a2)]) (dK D_Searches_comesBefore 3 rfl) rfl (ltK rfl) rfl ?_
  refine g_aloadn (pc := 8) (i0 := 3) (j := 0) (dK D_Searches_comesBefore 4 rfl) rfl rfl ?_
  refine vg_getA (pc := 9) (ci := 0) (f := 4) (dK D_Searches_comesBefore 5 rfl) q_93 (hw_8_0 (hw_6_1 hc0)) (ltK rfl) (ltK rfl) rfl ?_
  refine g_iloadn (pc := 12) (i0 := 1) (j := 2) (dK D_Searches_comesBefore 6 rfl) rfl rfl ?_
  refine gdE h (fun hi1 h => ?_)
  refine vg_iaload (pc := 13) (j := a1.toNat) (dK D_Searches_comesBefore 7 rfl) (hw_0_4 (hw_8_0 (hw_6_1 hc0))) rfl hi1 rfl ?_
  refine g_aloadn (pc := 14) (i0 := 3) (j := 0) (dK D_Searches_comesBefore 8 rfl) rfl rfl ?_
  refine vg_getA (pc := 15) (ci := 0) (f := 4) (dK D_Searches_comesBefore 9 rfl) q_93 (hw_8_0 (hw_6_1 hc0)) (ltK rfl) (ltK rfl) rfl ?_
  refine g_iloadn (pc := 18) (i0 := 2) (j := 3) (dK D_Searches_comesBefore 10 rfl) rfl rfl ?_
  refine gdE h (fun hi2 h => ?_)
  refine vg_iaload (pc := 19) (j := a2.toNat) (dK D_Searches_comesBefore 11 rfl) (hw_0_4 (hw_8_0 (hw_6_1 hc0))) rfl hi2 rfl ?_
  refine vg_icmp_eq (pc := 20) (t := 44) (dK D_Searches_comesBefore 12 rfl) rfl (g_in _ _ _) (g_in _ _ _) (fun hc6 => ?_) (fun hc6 => ?_)
  · replace h := ifP h hc6
    refine g_aloadn (pc := 44) (i0 := 3) (j := 0) (dK D_Searches_comesBefore 26 rfl) rfl rfl ?_
    refine vg_getA (pc := 45) (ci := 0) (f := 0) (dK D_Searches_comesBefore 27 rfl) q_77 (hw_8_0 (hw_6_1 hc0)) (ltK rfl) (ltK rfl) rfl ?_
    refine g_iloadn (pc := 48) (i0 := 1) (j := 2) (dK D_Searches_comesBefore 28 rfl) rfl rfl ?_
    refine vg_iaload (pc := 49) (j := a1.toNat) (dK D_Searches_comesBefore 29 rfl) (hw_0_0 (hw_8_0 (hw_6_1 hc0))) rfl hi1 rfl ?_
    refine g_aloadn (pc := 50) (i0 := 3) (j := 0) (dK D_Searches_comesBefore 30 rfl) rfl rfl ?_
    refine vg_getA (pc := 51) (ci := 0) (f := 0) (dK D_Searches_comesBefore 31 rfl) q_77 (hw_8_0 (hw_6_1 hc0)) (ltK rfl) (ltK rfl) rfl ?_
    refine g_iloadn (pc := 54) (i0 := 2) (j := 3) (dK D_Searches_comesBefore 32 rfl) rfl rfl ?_
    refine vg_iaload (pc := 55) (j := a2.toNat) (dK D_Searches_comesBefore 33 rfl) (hw_0_0 (hw_8_0 (hw_6_1 hc0))) rfl hi2 rfl ?_
    refine vg_icmp_le (pc := 56) (t := 63) (dK D_Searches_comesBefore 34 rfl) rfl (g_in _ _ _) (g_in _ _ _) (fun hc4 => ?_) (fun hc4 => ?_)
    · replace h := ifP h hc4
      refine vg_iconst (pc := 63) (dK D_Searches_comesBefore 37 rfl) ?_
      exact vg_iretB (pc := 64) (b := false) (dK D_Searches_comesBefore 38 rfl) rfl (leK rfl) (leK rfl) (fun _ => rfl) (by obtain rfl := Option.some.inj h; exact ⟨rfl, rfl⟩)
    · replace h := ifN h hc4
      refine vg_iconst (pc := 59) (dK D_Searches_comesBefore 35 rfl) ?_
      refine g_goto (pc := 60) (tgt := 64) (dK D_Searches_comesBefore 36 rfl) rfl ?_
      exact vg_iretB (pc := 64) (b := true) (dK D_Searches_comesBefore 38 rfl) rfl (leK rfl) (leK rfl) (fun _ => rfl) (by obtain rfl := Option.some.inj h; exact ⟨rfl, rfl⟩)
  · replace h := ifN h hc6
    refine g_aloadn (pc := 23) (i0 := 3) (j := 0) (dK D_Searches_comesBefore 13 rfl) rfl rfl ?_
    refine vg_getA (pc := 24) (ci := 0) (f := 4) (dK D_Searches_comesBefore 14 rfl) q_93 (hw_8_0 (hw_6_1 hc0)) (ltK rfl) (ltK rfl) rfl ?_
    refine g_iloadn (pc := 27) (i0 := 1) (j := 2) (dK D_Searches_comesBefore 15 rfl) rfl rfl ?_
    refine vg_iaload (pc := 28) (j := a1.toNat) (dK D_Searches_comesBefore 16 rfl) (hw_0_4 (hw_8_0 (hw_6_1 hc0))) rfl hi1 rfl ?_
    refine g_aloadn (pc := 29) (i0 := 3) (j := 0) (dK D_Searches_comesBefore 17 rfl) rfl rfl ?_
    refine vg_getA (pc := 30) (ci := 0) (f := 4) (dK D_Searches_comesBefore 18 rfl) q_93 (hw_8_0 (hw_6_1 hc0)) (ltK rfl) (ltK rfl) rfl ?_
    refine g_iloadn (pc := 33) (i0 := 2) (j := 3) (dK D_Searches_comesBefore 19 rfl) rfl rfl ?_
    refine vg_iaload (pc := 34) (j := a2.toNat) (dK D_Searches_comesBefore 20 rfl) (hw_0_4 (hw_8_0 (hw_6_1 hc0))) rfl hi2 rfl ?_
    refine vg_icmp_le (pc := 35) (t := 42) (dK D_Searches_comesBefore 21 rfl) rfl (g_in _ _ _) (g_in _ _ _) (fun hc5 => ?_) (fun hc5 => ?_)
    · replace h := ifP h hc5
      refine vg_iconst (pc := 42) (dK D_Searches_comesBefore 24 rfl) ?_
      exact vg_iretB (pc := 43) (b := false) (dK D_Searches_comesBefore 25 rfl) rfl (leK rfl) (leK rfl) (fun _ => rfl) (by obtain rfl := Option.some.inj h; exact ⟨rfl, rfl⟩)
    · replace h := ifN h hc5
      refine vg_iconst (pc := 38) (dK D_Searches_comesBefore 22 rfl) ?_
      refine g_goto (pc := 39) (tgt := 43) (dK D_Searches_comesBefore 23 rfl) rfl ?_
      exact vg_iretB (pc := 43) (b := true) (dK D_Searches_comesBefore 25 rfl) rfl (leK rfl) (leK rfl) (fun _ => rfl) (by obtain rfl := Option.some.inj h; exact ⟨rfl, rfl⟩)
def lb_Searches_insertAd_2 (c0 : Nat) (a1 : Int) (go : Int × St → Option (Int × St)) (a3 : Int) (S : St) : Option (Int × St) := if a3 ≤ 0 then (some (a3, S)) else (if 0 ≤ (a3 - 1) ∧ (a3 - 1) < 40 then (bnO (fn_Searches_comesBefore c0 a1 (g S (tgt c0 2) (((a3 - 1)).toNat)) S) fun p2 => if p2 = true then (if 0 ≤ a3 ∧ a3 < 40 then (nm (u S (tgt c0 2) a3.toNat (g S (tgt c0 2) (((a3 - 1)).toNat))) fun S5 => nm (wr (a3 + (-1))) fun v6 => go (v6, S5)) else none) else (some (a3, S))) else none)
def lo_Searches_insertAd_2 (c0 : Nat) (a1 : Int) : Nat → Int × St → Option (Int × St) := lp fun go p => lb_Searches_insertAd_2 c0 a1 go p.1 p.2
theorem tl_Searches_insertAd_2 {E : EV} {X : XT} {c0 : Nat} (hc0 : HC X 6 c0) {a1 : Int} (ha1 : inR a1) {K : RK → PS → Prop} {q : Int × St} (hx : inR q.1 → Go E M_Searches_insertAd 0 0 42 [(0, .ref c0), (1, V a1), (3, V q.1)] [] (WX X q.2) 0 0 K) : ∀ n a, lo_Searches_insertAd_2 c0 a1 n a = some q → inR a.1 → Go E M_Searches_insertAd 0 0 2 [(0, .ref c0), (1, V a1), (3, V a.1)] [] (WX X a.2) 0 0 K := by
  refine lp_ind (P := fun a : Int × St => inR a.1 → Go E M_Searches_insertAd 0 0 2 [(0, .ref c0), (1, V a1), (3, V a.1)] [] (WX X a.2) 0 0 K) (fun go ih a h => ?_)
  obtain ⟨a3, S⟩ := a
  intro ha3
  show Go E M_Searches_insertAd 0 0 2 [(0, .ref c0), (1, V a1), (3, V a3)] [] (WX X S) 0 0 K
  replace h : lb_Searches_insertAd_2 c0 a1 go a3 S = some q := h
  unfold lb_Searches_insertAd_2 at h
  refine g_iloadn (pc := 2) (i0 := 3) (j := 2) (dK D_Searches_insertAd 2 rfl) rfl rfl ?_
  refine vg_if_le (pc := 3) (t := 42) (dK D_Searches_insertAd 3 rfl) rfl ha3 (fun hc7 => ?_) (fun hc7 => ?_)
  · replace h := ifP h hc7
    obtain rfl := Option.some.inj h
    exact hx ha3
  · replace h := ifN h hc7
    refine g_aloadn (pc := 6) (i0 := 0) (j := 0) (dK D_Searches_insertAd 4 rfl) rfl rfl ?_
    refine g_iloadn (pc := 7) (i0 := 1) (j := 1) (dK D_Searches_insertAd 5 rfl) rfl rfl ?_
    refine g_aloadn (pc := 8) (i0 := 0) (j := 0) (dK D_Searches_insertAd 6 rfl) rfl rfl ?_
    refine vg_getA (pc := 9) (ci := 6) (f := 2) (dK D_Searches_insertAd 7 rfl) q_371 hc0 (ltK rfl) (ltK rfl) rfl ?_
    refine g_iloadn (pc := 12) (i0 := 3) (j := 2) (dK D_Searches_insertAd 8 rfl) rfl rfl ?_
    refine vg_iconst (pc := 13) (dK D_Searches_insertAd 9 rfl) ?_
    refine vg_isub (pc := 14) (dK D_Searches_insertAd 10 rfl) ?_
    refine gdE h (fun hi1 h => ?_)
    refine vg_iaload (pc := 15) (j := ((a3 - 1)).toNat) (dK D_Searches_insertAd 11 rfl) (hw_6_2 hc0) rfl hi1 rfl ?_
    refine bnE h (fun p2 e_p2 h => ?_)
    refine vg_cV (pc := 16) (As := [V a1, V (g S (tgt c0 2) (((a3 - 1)).toNat))]) (rest := []) (mc' := 0) (ms' := 0) (dK D_Searches_insertAd 12 rfl) K_Searches_74 (fitK rfl) (ltK rfl) hc0 rfl (leK rfl) (leK rfl) (leK rfl) (tf_Searches_comesBefore hc0 ha1 (g_in _ _ _) e_p2) (kcB ?_)
    refine vg_ifB_eq (pc := 19) (b := p2) (t := 42) (dK D_Searches_insertAd 13 rfl) rfl (fun hc3 => ?_) (fun hc3 => ?_)
    · replace h := ifP h hc3
      refine g_aloadn (pc := 22) (i0 := 0) (j := 0) (dK D_Searches_insertAd 14 rfl) rfl rfl ?_
      refine vg_getA (pc := 23) (ci := 6) (f := 2) (dK D_Searches_insertAd 15 rfl) q_371 hc0 (ltK rfl) (ltK rfl) rfl ?_
      refine g_iloadn (pc := 26) (i0 := 3) (j := 2) (dK D_Searches_insertAd 16 rfl) rfl rfl ?_
      refine g_aloadn (pc := 27) (i0 := 0) (j := 0) (dK D_Searches_insertAd 17 rfl) rfl rfl ?_
      refine vg_getA (pc := 28) (ci := 6) (f := 2) (dK D_Searches_insertAd 18 rfl) q_371 hc0 (ltK rfl) (ltK rfl) rfl ?_
      refine g_iloadn (pc := 31) (i0 := 3) (j := 2) (dK D_Searches_insertAd 19 rfl) rfl rfl ?_
      refine vg_iconst (pc := 32) (dK D_Searches_insertAd 20 rfl) ?_
      refine vg_isub (pc := 33) (dK D_Searches_insertAd 21 rfl) ?_
      refine vg_iaload (pc := 34) (j := ((a3 - 1)).toNat) (dK D_Searches_insertAd 22 rfl) (hw_6_2 hc0) rfl hi1 rfl ?_
      refine gdE h (fun hi4 h => ?_)
      refine nmE h (fun S5 e_S5 h => ?_)
      refine vg_iastore (pc := 35) (z := (g S (tgt c0 2) (((a3 - 1)).toNat))) (dK D_Searches_insertAd 23 rfl) (hw_6_2 hc0) rfl hi4 rfl e_S5 ?_
      refine nmE h (fun v6 e_v6 h => ?_)
      refine vg_iinc (pc := 36) (j := 2) (a := a3) (z := -1) (ls2 := [(3, V v6), (0, .ref c0), (1, V a1)]) (dK D_Searches_insertAd 24 rfl) rfl e_v6 (ltK rfl) rfl ?_
      refine g_goto (pc := 39) (tgt := 2) (dK D_Searches_insertAd 25 rfl) rfl ?_
      refine gL_weak (ls' := [(0, .ref c0), (1, V a1), (3, V v6)]) (sbc 1 rfl (sbc 2 rfl (sbc 0 rfl sbn))) ?_
      replace h := ih _ h
      exact h (Vn_in e_v6)
    · replace h := ifN h hc3
      obtain rfl := Option.some.inj h
      exact hx ha3
def fn_Searches_insertAd (c0 : Nat) (a1 : Int) (a2 : Int) (S : St) : Option (St) := bnO (lo_Searches_insertAd_2 c0 a1 FU (a2, S)) fun p8 => if 0 ≤ p8.1 ∧ p8.1 < 40 then (nm (u p8.2 (tgt c0 2) ((p8.1).toNat) a1) fun S10 => some S10) else none
theorem tf_Searches_insertAd {E : EV} {X : XT} {c0 : Nat} (hc0 : HC X 6 c0) {a1 : Int} (ha1 : inR a1) {a2 : Int} (ha2 : inR a2) {S : St} {q : St} (h : fn_Searches_insertAd c0 a1 a2 S = some q) : Ev E M_Searches_insertAd [.ref c0, V a1, V a2] (WX X S) 0 0 (KU X q) := by
  refine Ev.of pn_Searches rfl (leK rfl) ?_
  show Go E M_Searches_insertAd 0 0 0 [(0, .ref c0), (1, V a1), (2, V a2)] [] (WX X S) 0 0 (KU X q)
  unfold fn_Searches_insertAd at h
  refine g_iloadn (pc := 0) (i0 := 2) (j := 2) (dK D_Searches_insertAd 0 rfl) rfl rfl ?_
  refine g_istoren (pc := 1) (i0 := 3) (ls2 := [(3, V a2), (0, .ref c0), (1, V a1), (2, V a2)]) (dK D_Searches_insertAd 1 rfl) rfl (ltK rfl) rfl ?_
  refine bnE h (fun p8 e_p8 h => ?_)
  refine gL_weak (ls' := [(0, .ref c0), (1, V a1), (3, V a2)]) (sbc 1 rfl (sbc 2 rfl (sbc 0 rfl sbn))) ?_
  refine tl_Searches_insertAd_2 hc0 ha1 (fun hx3_p8 => ?_) FU (a2, S) e_p8 ha2
  refine g_aloadn (pc := 42) (i0 := 0) (j := 0) (dK D_Searches_insertAd 26 rfl) rfl rfl ?_
  refine vg_getA (pc := 43) (ci := 6) (f := 2) (dK D_Searches_insertAd 27 rfl) q_371 hc0 (ltK rfl) (ltK rfl) rfl ?_
  refine g_iloadn (pc := 46) (i0 := 3) (j := 2) (dK D_Searches_insertAd 28 rfl) rfl rfl ?_
  refine g_iloadn (pc := 47) (i0 := 1) (j := 1) (dK D_Searches_insertAd 29 rfl) rfl rfl ?_
  refine gdE h (fun hi9 h => ?_)
  refine nmE h (fun S10 e_S10 h => ?_)
  refine vg_iastore (pc := 48) (z := a1) (dK D_Searches_insertAd 30 rfl) (hw_6_2 hc0) rfl hi9 rfl e_S10 ?_
  exact g_return (pc := 49) (dK D_Searches_insertAd 31 rfl) rfl (leK rfl) (leK rfl) (fun _ => rfl) (by obtain rfl := Option.some.inj h; exact ⟨rfl, rfl⟩)
def lb_Plan_firstFor_6 (c0 : Nat) (a1 : Int) (S : St) (go : Int → Option ((Int) ⊕ (Unit))) (a3 : Int) : Option ((Int) ⊕ (Unit)) := if (g S c0 1) < a3 then (some (.inr ())) else (bnO (fn_Plan_adReason c0 a1 a3 S) fun p1 => if p1 = 0 then (some (.inl a3)) else (nm (wr (a3 + 1)) fun v2 => go v2))
def lo_Plan_firstFor_6 (c0 : Nat) (a1 : Int) (S : St) : Nat → Int → Option ((Int) ⊕ (Unit)) := lp fun go p => lb_Plan_firstFor_6 c0 a1 S go p
theorem tl_Plan_firstFor_6 {E : EV} {X : XT} {c0 : Nat} (hc0 : HC X 4 c0) {a1 : Int} (ha1 : inR a1) {S : St} {K : RK → PS → Prop} {q : (Int) ⊕ (Unit)} (hx : ∀ p, q = .inr p → Go E M_Plan_firstFor 0 0 31 [] [] (WX X S) 0 0 K) (hr : ∀ p, q = .inl p → inR p → K (.inl (some (V p))) (WX X S)) : ∀ n a, lo_Plan_firstFor_6 c0 a1 S n a = some q → inR a → Go E M_Plan_firstFor 0 0 6 [(0, .ref c0), (1, V a1), (3, V a)] [] (WX X S) 0 0 K := by
  refine lp_ind (P := fun a : Int => inR a → Go E M_Plan_firstFor 0 0 6 [(0, .ref c0), (1, V a1), (3, V a)] [] (WX X S) 0 0 K) (fun go ih a3 h => ?_)
  intro ha3
  show Go E M_Plan_firstFor 0 0 6 [(0, .ref c0), (1, V a1), (3, V a3)] [] (WX X S) 0 0 K
  replace h : lb_Plan_firstFor_6 c0 a1 S go a3 = some q := h
  unfold lb_Plan_firstFor_6 at h
  refine g_iloadn (pc := 6) (i0 := 3) (j := 2) (dK D_Plan_firstFor 4 rfl) rfl rfl ?_
  refine g_aloadn (pc := 7) (i0 := 0) (j := 0) (dK D_Plan_firstFor 5 rfl) rfl rfl ?_
  refine vg_getI (pc := 8) (ci := 4) (f := 1) (dK D_Plan_firstFor 6 rfl) q_294 hc0 (ltK rfl) (ltK rfl) rfl ?_
  refine vg_icmp_gt (pc := 11) (t := 31) (dK D_Plan_firstFor 7 rfl) rfl ha3 (g_in _ _ _) (fun hc4 => ?_) (fun hc4 => ?_)
  · replace h := ifP h hc4
    refine gL_weak (ls' := []) sbn ?_
    exact hx _ (Option.some.inj h).symm 
  · replace h := ifN h hc4
    refine g_aloadn (pc := 14) (i0 := 0) (j := 0) (dK D_Plan_firstFor 8 rfl) rfl rfl ?_
    refine g_iloadn (pc := 15) (i0 := 1) (j := 1) (dK D_Plan_firstFor 9 rfl) rfl rfl ?_
    refine g_iloadn (pc := 16) (i0 := 3) (j := 2) (dK D_Plan_firstFor 10 rfl) rfl rfl ?_
    refine bnE h (fun p1 e_p1 h => ?_)
    refine vg_cV (pc := 17) (As := [V a1, V a3]) (rest := []) (mc' := 0) (ms' := 0) (dK D_Plan_firstFor 11 rfl) K_Plan_210 (fitK rfl) (ltK rfl) hc0 rfl (leK rfl) (leK rfl) (leK rfl) (tf_Plan_adReason hc0 ha1 ha3 e_p1) (kcI (fun h_p1 => ?_))
    refine vg_if_ne (pc := 20) (t := 25) (dK D_Plan_firstFor 12 rfl) rfl h_p1 (fun hc3 => ?_) (fun hc3 => ?_)
    · replace h := ifN h hc3
      refine nmE h (fun v2 e_v2 h => ?_)
      refine vg_iinc (pc := 25) (j := 2) (a := a3) (z := 1) (ls2 := [(3, V v2), (0, .ref c0), (1, V a1)]) (dK D_Plan_firstFor 15 rfl) rfl e_v2 (ltK rfl) rfl ?_
      refine g_goto (pc := 28) (tgt := 6) (dK D_Plan_firstFor 16 rfl) rfl ?_
      refine gL_weak (ls' := [(0, .ref c0), (1, V a1), (3, V v2)]) (sbc 1 rfl (sbc 2 rfl (sbc 0 rfl sbn))) ?_
      replace h := ih _ h
      exact h (Vn_in e_v2)
    · replace h := ifP h hc3
      refine g_iloadn (pc := 23) (i0 := 3) (j := 2) (dK D_Plan_firstFor 13 rfl) rfl rfl ?_
      exact vg_iretI (pc := 24) (r := a3) (dK D_Plan_firstFor 14 rfl) rfl (leK rfl) (leK rfl) (fun _ => rfl) (hr _ (Option.some.inj h).symm ha3)
def fn_Plan_firstFor (c0 : Nat) (a1 : Int) (a2 : Int) (S : St) : Option (Int) := bnS (lo_Plan_firstFor_6 c0 a1 S FU (i_max a2 1)) (fun p6 => some p6) fun p5 => some (-1)
theorem tf_Plan_firstFor {E : EV} {X : XT} {c0 : Nat} (hc0 : HC X 4 c0) {a1 : Int} (ha1 : inR a1) {a2 : Int} (ha2 : inR a2) {S : St} {q : Int} (h : fn_Plan_firstFor c0 a1 a2 S = some q) : Ev E M_Plan_firstFor [.ref c0, V a1, V a2] (WX X S) 0 0 (KI X q S) := by
  refine Ev.of pn_Plan rfl (leK rfl) ?_
  show Go E M_Plan_firstFor 0 0 0 [(0, .ref c0), (1, V a1), (2, V a2)] [] (WX X S) 0 0 (KI X q S)
  unfold fn_Plan_firstFor at h
  refine g_iloadn (pc := 0) (i0 := 2) (j := 2) (dK D_Plan_firstFor 0 rfl) rfl rfl ?_
  refine vg_iconst (pc := 1) (dK D_Plan_firstFor 1 rfl) ?_
  refine vg_mmax (pc := 2) (dK D_Plan_firstFor 2 rfl) q_730 (leK rfl) (leK rfl) (leK rfl) (leK rfl) ha2 (inRk rfl) ?_
  refine g_istoren (pc := 5) (i0 := 3) (ls2 := [(3, V (i_max a2 1)), (0, .ref c0), (1, V a1), (2, V a2)]) (dK D_Plan_firstFor 3 rfl) rfl (ltK rfl) rfl ?_
  refine bnSE h (fun p6 e_p6 h => ?_) (fun p5 e_p5 h => ?_)
  · refine gL_weak (ls' := [(0, .ref c0), (1, V a1), (3, V (i_max a2 1))]) (sbc 1 rfl (sbc 2 rfl (sbc 0 rfl sbn))) ?_
    refine tl_Plan_firstFor_6 hc0 ha1 (fun _ e => slr e) (fun p e hr_p6 => ?_) FU (i_max a2 1) e_p6 (i_max_in ha2 (inRk rfl))
    have e := Sum.inl.inj e
    subst e
    exact (by obtain rfl := Option.some.inj h; exact ⟨rfl, hr_p6, rfl⟩)
  · refine gL_weak (ls' := [(0, .ref c0), (1, V a1), (3, V (i_max a2 1))]) (sbc 1 rfl (sbc 2 rfl (sbc 0 rfl sbn))) ?_
    refine tl_Plan_firstFor_6 hc0 ha1 (fun p e => ?_) (fun _ e => srl e) FU (i_max a2 1) e_p5 (i_max_in ha2 (inRk rfl))
    have e := Sum.inr.inj e
    subst e
    refine vg_iconst (pc := 31) (dK D_Plan_firstFor 17 rfl) ?_
    exact vg_iretI (pc := 32) (r := (-1)) (dK D_Plan_firstFor 18 rfl) rfl (leK rfl) (leK rfl) (fun _ => rfl) (by obtain rfl := Option.some.inj h; exact ⟨rfl, (inRk rfl), rfl⟩)
def lb_Searches_placeFreeAds_4 (c0 : Nat) (go : Int × Int × St → Option (Int × St)) (a1 : Int) (a2 : Int) (S : St) : Option (Int × St) := if (g S (tgt (tgt c0 1) 0) 7) ≤ a2 then (some (a1, S)) else (if 0 ≤ a2 ∧ a2 < 40 then (if (g S (tgt (tgt (tgt c0 1) 0) 6) a2.toNat) = 0 then (bnO (fn_Searches_insertAd c0 a2 a1 S) fun p3 => nm (wr (a1 + 1)) fun v4 => nm (wr (a2 + 1)) fun v5 => go (v4, v5, p3)) else (nm (wr (a2 + 1)) fun v2 => go (a1, v2, S))) else none)
def lo_Searches_placeFreeAds_4 (c0 : Nat) : Nat → Int × Int × St → Option (Int × St) := lp fun go p => lb_Searches_placeFreeAds_4 c0 go p.1 p.2.1 p.2.2
theorem tl_Searches_placeFreeAds_4 {E : EV} {X : XT} {c0 : Nat} (hc0 : HC X 6 c0) {K : RK → PS → Prop} {q : Int × St} (hx : inR q.1 → Go E M_Searches_placeFreeAds 0 0 48 [(0, .ref c0), (1, V q.1)] [] (WX X q.2) 0 0 K) : ∀ n a, lo_Searches_placeFreeAds_4 c0 n a = some q → inR a.1 → inR a.2.1 → Go E M_Searches_placeFreeAds 0 0 4 [(0, .ref c0), (1, V a.1), (2, V a.2.1)] [] (WX X a.2.2) 0 0 K := by
  refine lp_ind (P := fun a : Int × Int × St => inR a.1 → inR a.2.1 → Go E M_Searches_placeFreeAds 0 0 4 [(0, .ref c0), (1, V a.1), (2, V a.2.1)] [] (WX X a.2.2) 0 0 K) (fun go ih a h => ?_)
  obtain ⟨a1, a2, S⟩ := a
  intro ha1 ha2
  show Go E M_Searches_placeFreeAds 0 0 4 [(0, .ref c0), (1, V a1), (2, V a2)] [] (WX X S) 0 0 K
  replace h : lb_Searches_placeFreeAds_4 c0 go a1 a2 S = some q := h
  unfold lb_Searches_placeFreeAds_4 at h
  refine g_iloadn (pc := 4) (i0 := 2) (j := 2) (dK D_Searches_placeFreeAds_0 4 rfl) rfl rfl ?_
  refine g_aloadn (pc := 5) (i0 := 0) (j := 0) (dK D_Searches_placeFreeAds_0 5 rfl) rfl rfl ?_
  refine vg_getO (pc := 6) (ci := 6) (f := 1) (dK D_Searches_placeFreeAds_0 6 rfl) q_370 hc0 (ltK rfl) (ltK rfl) rfl ?_
  refine vg_getO (pc := 9) (ci := 8) (f := 0) (dK D_Searches_placeFreeAds_0 7 rfl) q_221 (hw_6_1 hc0) (ltK rfl) (ltK rfl) rfl ?_
  refine vg_getI (pc := 12) (ci := 0) (f := 7) (dK D_Searches_placeFreeAds_0 8 rfl) q_106 (hw_8_0 (hw_6_1 hc0)) (ltK rfl) (ltK rfl) rfl ?_
  refine vg_icmp_ge (pc := 15) (t := 48) (dK D_Searches_placeFreeAds_0 9 rfl) rfl ha2 (g_in _ _ _) (fun hc7 => ?_) (fun hc7 => ?_)
  · replace h := ifP h hc7
    obtain rfl := Option.some.inj h
    refine gL_weak (ls' := [(0, .ref c0), (1, V a1)]) (sbc 0 rfl (sbc 1 rfl sbn)) ?_
    exact hx ha1
  · replace h := ifN h hc7
    refine g_aloadn (pc := 18) (i0 := 0) (j := 0) (dK D_Searches_placeFreeAds_0 10 rfl) rfl rfl ?_
    refine vg_getO (pc := 19) (ci := 6) (f := 1) (dK D_Searches_placeFreeAds_0 11 rfl) q_370 hc0 (ltK rfl) (ltK rfl) rfl ?_
    refine vg_getO (pc := 22) (ci := 8) (f := 0) (dK D_Searches_placeFreeAds_0 12 rfl) q_221 (hw_6_1 hc0) (ltK rfl) (ltK rfl) rfl ?_
    refine vg_getA (pc := 25) (ci := 0) (f := 6) (dK D_Searches_placeFreeAds_0 13 rfl) q_101 (hw_8_0 (hw_6_1 hc0)) (ltK rfl) (ltK rfl) rfl ?_
    refine g_iloadn (pc := 28) (i0 := 2) (j := 2) (dK D_Searches_placeFreeAds_0 14 rfl) rfl rfl ?_
    refine gdE h (fun hi1 h => ?_)
    refine vg_iaload (pc := 29) (j := a2.toNat) (dK D_Searches_placeFreeAds_0 15 rfl) (hw_0_6 (hw_8_0 (hw_6_1 hc0))) rfl hi1 rfl ?_
    refine vg_if_ne (pc := 30) (t := 42) (dK D_Searches_placeFreeAds_0 16 rfl) rfl (g_in _ _ _) (fun hc6 => ?_) (fun hc6 => ?_)
    · replace h := ifN h hc6
      refine nmE h (fun v2 e_v2 h => ?_)
      refine vg_iinc (pc := 42) (j := 2) (a := a2) (z := 1) (ls2 := [(2, V v2), (0, .ref c0), (1, V a1)]) (dK D_Searches_placeFreeAds_0 22 rfl) rfl e_v2 (ltK rfl) rfl ?_
      refine g_goto (pc := 45) (tgt := 4) (dK D_Searches_placeFreeAds_0 23 rfl) rfl ?_
      refine gL_weak (ls' := [(0, .ref c0), (1, V a1), (2, V v2)]) (sbc 1 rfl (sbc 2 rfl (sbc 0 rfl sbn))) ?_
      replace h := ih _ h
      exact h ha1 (Vn_in e_v2)
    · replace h := ifP h hc6
      refine g_aloadn (pc := 33) (i0 := 0) (j := 0) (dK D_Searches_placeFreeAds_0 17 rfl) rfl rfl ?_
      refine g_iloadn (pc := 34) (i0 := 2) (j := 2) (dK D_Searches_placeFreeAds_0 18 rfl) rfl rfl ?_
      refine g_iloadn (pc := 35) (i0 := 1) (j := 1) (dK D_Searches_placeFreeAds_0 19 rfl) rfl rfl ?_
      refine bnE h (fun p3 e_p3 h => ?_)
      refine vg_cV (pc := 36) (As := [V a2, V a1]) (rest := []) (mc' := 0) (ms' := 0) (dK D_Searches_placeFreeAds_0 20 rfl) K_Searches_63 (fitK rfl) (ltK rfl) hc0 rfl (leK rfl) (leK rfl) (leK rfl) (tf_Searches_insertAd hc0 ha2 ha1 e_p3) (kcU ?_)
      refine nmE h (fun v4 e_v4 h => ?_)
      refine vg_iinc (pc := 39) (j := 1) (a := a1) (z := 1) (ls2 := [(1, V v4), (0, .ref c0), (2, V a2)]) (dK D_Searches_placeFreeAds_0 21 rfl) rfl e_v4 (ltK rfl) rfl ?_
      refine nmE h (fun v5 e_v5 h => ?_)
      refine vg_iinc (pc := 42) (j := 2) (a := a2) (z := 1) (ls2 := [(2, V v5), (1, V v4), (0, .ref c0)]) (dK D_Searches_placeFreeAds_0 22 rfl) rfl e_v5 (ltK rfl) rfl ?_
      refine g_goto (pc := 45) (tgt := 4) (dK D_Searches_placeFreeAds_0 23 rfl) rfl ?_
      refine gL_weak (ls' := [(0, .ref c0), (1, V v4), (2, V v5)]) (sbc 2 rfl (sbc 1 rfl (sbc 0 rfl sbn))) ?_
      replace h := ih _ h
      exact h (Vn_in e_v4) (Vn_in e_v5)
def lb_Searches_placeFreeAds_52 (c0 : Nat) (a1 : Int) (go : Int × Int × St → Option (Int × St)) (a2 : Int) (a3 : Int) (S : St) : Option (Int × St) := if a1 ≤ a3 then (some (a2, S)) else (if 0 ≤ a3 ∧ a3 < 40 then (bnO (fn_Plan_firstFor (tgt c0 0) (g S (tgt c0 2) a3.toNat) 1 S) fun p10 => if p10 = (-1) then (nm (wr (a3 + 1)) fun v11 => go (a2, v11, S)) else (if 0 ≤ (g S (tgt c0 2) a3.toNat) ∧ (g S (tgt c0 2) a3.toNat) < 40 then (nm (u S (tgt (tgt (tgt c0 1) 0) 6) (((g S (tgt c0 2) a3.toNat)).toNat) p10) fun S13 => bnO (fn_Plan_recount (tgt c0 0) S13) fun p14 => nm (wr (a2 + 1)) fun v15 => nm (wr (a3 + 1)) fun v16 => go (v15, v16, p14)) else none)) else none)
def lo_Searches_placeFreeAds_52 (c0 : Nat) (a1 : Int) : Nat → Int × Int × St → Option (Int × St) := lp fun go p => lb_Searches_placeFreeAds_52 c0 a1 go p.1 p.2.1 p.2.2
theorem tl_Searches_placeFreeAds_52 {E : EV} {X : XT} {c0 : Nat} (hc0 : HC X 6 c0) {a1 : Int} (ha1 : inR a1) {K : RK → PS → Prop} {q : Int × St} (hx : inR q.1 → Go E M_Searches_placeFreeAds 0 0 114 [(2, V q.1)] [] (WX X q.2) 0 0 K) : ∀ n a, lo_Searches_placeFreeAds_52 c0 a1 n a = some q → inR a.1 → inR a.2.1 → Go E M_Searches_placeFreeAds 0 0 52 [(0, .ref c0), (1, V a1), (2, V a.1), (3, V a.2.1)] [] (WX X a.2.2) 0 0 K := by
  refine lp_ind (P := fun a : Int × Int × St => inR a.1 → inR a.2.1 → Go E M_Searches_placeFreeAds 0 0 52 [(0, .ref c0), (1, V a1), (2, V a.1), (3, V a.2.1)] [] (WX X a.2.2) 0 0 K) (fun go ih a h => ?_)
  obtain ⟨a2, a3, S⟩ := a
  intro ha2 ha3
  show Go E M_Searches_placeFreeAds 0 0 52 [(0, .ref c0), (1, V a1), (2, V a2), (3, V a3)] [] (WX X S) 0 0 K
  replace h : lb_Searches_placeFreeAds_52 c0 a1 go a2 a3 S = some q := h
  unfold lb_Searches_placeFreeAds_52 at h
  refine g_iloadn (pc := 52) (i0 := 3) (j := 3) (dK D_Searches_placeFreeAds_0 28 rfl) rfl rfl ?_
  refine g_iloadn (pc := 53) (i0 := 1) (j := 1) (dK D_Searches_placeFreeAds_0 29 rfl) rfl rfl ?_
  refine vg_icmp_ge (pc := 54) (t := 114) (dK D_Searches_placeFreeAds_0 30 rfl) rfl ha3 ha1 (fun hc18 => ?_) (fun hc18 => ?_)
  · replace h := ifP h hc18
    obtain rfl := Option.some.inj h
    refine gL_weak (ls' := [(2, V a2)]) (sbc 2 rfl sbn) ?_
    exact hx ha2
  · replace h := ifN h hc18
    refine g_aloadn (pc := 57) (i0 := 0) (j := 0) (dK D_Searches_placeFreeAds_0 31 rfl) rfl rfl ?_
    refine vg_getO (pc := 58) (ci := 6) (f := 0) (dK D_Searches_placeFreeAds_0 32 rfl) q_368 hc0 (ltK rfl) (ltK rfl) rfl ?_
    refine g_aloadn (pc := 61) (i0 := 0) (j := 0) (dK D_Searches_placeFreeAds_0 33 rfl) rfl rfl ?_
    refine vg_getA (pc := 62) (ci := 6) (f := 2) (dK D_Searches_placeFreeAds_0 34 rfl) q_371 hc0 (ltK rfl) (ltK rfl) rfl ?_
    refine g_iloadn (pc := 65) (i0 := 3) (j := 3) (dK D_Searches_placeFreeAds_0 35 rfl) rfl rfl ?_
    refine gdE h (fun hi9 h => ?_)
    refine vg_iaload (pc := 66) (j := a3.toNat) (dK D_Searches_placeFreeAds_0 36 rfl) (hw_6_2 hc0) rfl hi9 rfl ?_
    refine vg_iconst (pc := 67) (dK D_Searches_placeFreeAds_0 37 rfl) ?_
    refine bnE h (fun p10 e_p10 h => ?_)
    refine vg_cV (pc := 68) (As := [V (g S (tgt c0 2) a3.toNat), V 1]) (rest := []) (mc' := 0) (ms' := 0) (dK D_Searches_placeFreeAds_0 38 rfl) K_Searches_67 (fitK rfl) (ltK rfl) (hw_6_0 hc0) rfl (leK rfl) (leK rfl) (leK rfl) (tf_Plan_firstFor (hw_6_0 hc0) (g_in _ _ _) (inRk rfl) e_p10) (kcI (fun h_p10 => ?_))
    refine g_istore (pc := 71) (ls2 := [(4, V p10), (0, .ref c0), (1, V a1), (2, V a2), (3, V a3)]) (dK D_Searches_placeFreeAds_0 39 rfl) (ltK rfl) rfl ?_
    refine g_iload (pc := 73) (j := 0) (dK D_Searches_placeFreeAds_0 40 rfl) rfl ?_
    refine vg_iconst (pc := 75) (dK D_Searches_placeFreeAds_0 41 rfl) ?_
    refine vg_icmp_eq (pc := 76) (t := 108) (dK D_Searches_placeFreeAds_0 42 rfl) rfl h_p10 (inRk rfl) (fun hc17 => ?_) (fun hc17 => ?_)
    · replace h := ifP h hc17
      refine nmE h (fun v11 e_v11 h => ?_)
      refine vg_iinc (pc := 108) (j := 4) (a := a3) (z := 1) (ls2 := [(3, V v11), (4, V p10), (0, .ref c0), (1, V a1), (2, V a2)]) (dK D_Searches_placeFreeAds_1 7 rfl) rfl e_v11 (ltK rfl) rfl ?_
      refine g_goto (pc := 111) (tgt := 52) (dK D_Searches_placeFreeAds_1 8 rfl) rfl ?_
      refine gL_weak (ls' := [(0, .ref c0), (1, V a1), (2, V a2), (3, V v11)]) (sbc 2 rfl (sbc 3 rfl (sbc 4 rfl (sbc 0 rfl sbn)))) ?_
      replace h := ih _ h
      exact h ha2 (Vn_in e_v11)
    · replace h := ifN h hc17
      refine g_aloadn (pc := 79) (i0 := 0) (j := 1) (dK D_Searches_placeFreeAds_0 43 rfl) rfl rfl ?_
      refine vg_getO (pc := 80) (ci := 6) (f := 1) (dK D_Searches_placeFreeAds_0 44 rfl) q_370 hc0 (ltK rfl) (ltK rfl) rfl ?_
      refine vg_getO (pc := 83) (ci := 8) (f := 0) (dK D_Searches_placeFreeAds_0 45 rfl) q_221 (hw_6_1 hc0) (ltK rfl) (ltK rfl) rfl ?_
      refine vg_getA (pc := 86) (ci := 0) (f := 6) (dK D_Searches_placeFreeAds_0 46 rfl) q_101 (hw_8_0 (hw_6_1 hc0)) (ltK rfl) (ltK rfl) rfl ?_
      refine g_aloadn (pc := 89) (i0 := 0) (j := 1) (dK D_Searches_placeFreeAds_0 47 rfl) rfl rfl ?_
      refine vg_getA (pc := 90) (ci := 6) (f := 2) (dK D_Searches_placeFreeAds_0 48 rfl) q_371 hc0 (ltK rfl) (ltK rfl) rfl ?_
      refine g_iloadn (pc := 93) (i0 := 3) (j := 4) (dK D_Searches_placeFreeAds_0 49 rfl) rfl rfl ?_
      refine vg_iaload (pc := 94) (j := a3.toNat) (dK D_Searches_placeFreeAds_1 0 rfl) (hw_6_2 hc0) rfl hi9 rfl ?_
      refine g_iload (pc := 95) (j := 0) (dK D_Searches_placeFreeAds_1 1 rfl) rfl ?_
      refine gdE h (fun hi12 h => ?_)
      refine nmE h (fun S13 e_S13 h => ?_)
      refine vg_iastore (pc := 97) (z := p10) (dK D_Searches_placeFreeAds_1 2 rfl) (hw_0_6 (hw_8_0 (hw_6_1 hc0))) rfl hi12 rfl e_S13 ?_
      refine g_aloadn (pc := 98) (i0 := 0) (j := 1) (dK D_Searches_placeFreeAds_1 3 rfl) rfl rfl ?_
      refine vg_getO (pc := 99) (ci := 6) (f := 0) (dK D_Searches_placeFreeAds_1 4 rfl) q_368 hc0 (ltK rfl) (ltK rfl) rfl ?_
      refine bnE h (fun p14 e_p14 h => ?_)
      refine vg_cV (pc := 102) (As := []) (rest := []) (mc' := 0) (ms' := 0) (dK D_Searches_placeFreeAds_1 5 rfl) K_Searches_71 (fitK rfl) (ltK rfl) (hw_6_0 hc0) rfl (leK rfl) (leK rfl) (leK rfl) (tf_Plan_recount (hw_6_0 hc0) e_p14) (kcU ?_)
      refine nmE h (fun v15 e_v15 h => ?_)
      refine vg_iinc (pc := 105) (j := 3) (a := a2) (z := 1) (ls2 := [(2, V v15), (4, V p10), (0, .ref c0), (1, V a1), (3, V a3)]) (dK D_Searches_placeFreeAds_1 6 rfl) rfl e_v15 (ltK rfl) rfl ?_
      refine nmE h (fun v16 e_v16 h => ?_)
      refine vg_iinc (pc := 108) (j := 4) (a := a3) (z := 1) (ls2 := [(3, V v16), (2, V v15), (4, V p10), (0, .ref c0), (1, V a1)]) (dK D_Searches_placeFreeAds_1 7 rfl) rfl e_v16 (ltK rfl) rfl ?_
      refine g_goto (pc := 111) (tgt := 52) (dK D_Searches_placeFreeAds_1 8 rfl) rfl ?_
      refine gL_weak (ls' := [(0, .ref c0), (1, V a1), (2, V v15), (3, V v16)]) (sbc 3 rfl (sbc 4 rfl (sbc 1 rfl (sbc 0 rfl sbn)))) ?_
      replace h := ih _ h
      exact h (Vn_in e_v15) (Vn_in e_v16)
def fn_Searches_placeFreeAds (c0 : Nat) (S : St) : Option (Int × St) := bnO (lo_Searches_placeFreeAds_4 c0 FU (0, 0, S)) fun p8 => bnO (lo_Searches_placeFreeAds_52 c0 p8.1 FU (0, 0, p8.2)) fun p19 => some (p19.1, p19.2)
theorem tf_Searches_placeFreeAds {E : EV} {X : XT} {c0 : Nat} (hc0 : HC X 6 c0) {S : St} {q : Int × St} (h : fn_Searches_placeFreeAds c0 S = some q) : Ev E M_Searches_placeFreeAds [.ref c0] (WX X S) 0 0 (KI X q.1 q.2) := by
  refine Ev.of pn_Searches rfl (leK rfl) ?_
  show Go E M_Searches_placeFreeAds 0 0 0 [(0, .ref c0)] [] (WX X S) 0 0 (KI X q.1 q.2)
  unfold fn_Searches_placeFreeAds at h
  refine vg_iconst (pc := 0) (dK D_Searches_placeFreeAds_0 0 rfl) ?_
  refine g_istoren (pc := 1) (i0 := 1) (ls2 := [(1, V 0), (0, .ref c0)]) (dK D_Searches_placeFreeAds_0 1 rfl) rfl (ltK rfl) rfl ?_
  refine vg_iconst (pc := 2) (dK D_Searches_placeFreeAds_0 2 rfl) ?_
  refine g_istoren (pc := 3) (i0 := 2) (ls2 := [(2, V 0), (1, V 0), (0, .ref c0)]) (dK D_Searches_placeFreeAds_0 3 rfl) rfl (ltK rfl) rfl ?_
  refine bnE h (fun p8 e_p8 h => ?_)
  refine gL_weak (ls' := [(0, .ref c0), (1, V 0), (2, V 0)]) (sbc 2 rfl (sbc 1 rfl (sbc 0 rfl sbn))) ?_
  refine tl_Searches_placeFreeAds_4 hc0 (fun hx1_p8 => ?_) FU (0, 0, S) e_p8 (inRk rfl) (inRk rfl)
  refine vg_iconst (pc := 48) (dK D_Searches_placeFreeAds_0 24 rfl) ?_
  refine g_istoren (pc := 49) (i0 := 2) (ls2 := [(2, V 0), (0, .ref c0), (1, V p8.1)]) (dK D_Searches_placeFreeAds_0 25 rfl) rfl (ltK rfl) rfl ?_
  refine vg_iconst (pc := 50) (dK D_Searches_placeFreeAds_0 26 rfl) ?_
  refine g_istoren (pc := 51) (i0 := 3) (ls2 := [(3, V 0), (2, V 0), (0, .ref c0), (1, V p8.1)]) (dK D_Searches_placeFreeAds_0 27 rfl) rfl (ltK rfl) rfl ?_
  refine bnE h (fun p19 e_p19 h => ?_)
  refine gL_weak (ls' := [(0, .ref c0), (1, V p8.1), (2, V 0), (3, V 0)]) (sbc 2 rfl (sbc 3 rfl (sbc 1 rfl (sbc 0 rfl sbn)))) ?_
  refine tl_Searches_placeFreeAds_52 hc0 hx1_p8 (fun hx2_p19 => ?_) FU (0, 0, p8.2) e_p19 (inRk rfl) (inRk rfl)
  refine g_iloadn (pc := 114) (i0 := 2) (j := 0) (dK D_Searches_placeFreeAds_1 9 rfl) rfl rfl ?_
  exact vg_iretI (pc := 115) (r := p19.1) (dK D_Searches_placeFreeAds_1 10 rfl) rfl (leK rfl) (leK rfl) (fun _ => rfl) (by obtain rfl := Option.some.inj h; exact ⟨rfl, hx2_p19, rfl⟩)
def fn_FP_placeAds (c0 : Nat) (S : St) : Option (Int × St) := bnO (fn_History_keep (tgt c0 4) (tgt (tgt c0 3) 0) S) fun p1 => bnO (fn_Searches_placeFreeAds (tgt c0 2) p1) fun p2 => some (p2.1, p2.2)
theorem tf_FP_placeAds {E : EV} {X : XT} {c0 : Nat} (hc0 : HC X 10 c0) {S : St} {q : Int × St} (h : fn_FP_placeAds c0 S = some q) : Ev E M_FP_placeAds [.ref c0] (WX X S) 0 0 (KI X q.1 q.2) := by
  refine Ev.of pn_FP rfl (leK rfl) ?_
  show Go E M_FP_placeAds 0 0 0 [(0, .ref c0)] [] (WX X S) 0 0 (KI X q.1 q.2)
  unfold fn_FP_placeAds at h
  refine g_aloadn (pc := 0) (i0 := 0) (j := 0) (dK D_FP_placeAds 0 rfl) rfl rfl ?_
  refine vg_getO (pc := 1) (ci := 10) (f := 4) (dK D_FP_placeAds 1 rfl) q_426 hc0 (ltK rfl) (ltK rfl) rfl ?_
  refine g_aloadn (pc := 4) (i0 := 0) (j := 0) (dK D_FP_placeAds 2 rfl) rfl rfl ?_
  refine vg_getO (pc := 5) (ci := 10) (f := 3) (dK D_FP_placeAds 3 rfl) q_425 hc0 (ltK rfl) (ltK rfl) rfl ?_
  refine vg_getO (pc := 8) (ci := 4) (f := 0) (dK D_FP_placeAds 4 rfl) q_292 (hw_10_3 hc0) (ltK rfl) (ltK rfl) rfl ?_
  refine bnE h (fun p1 e_p1 h => ?_)
  refine vg_cV (pc := 11) (As := [.ref (tgt (tgt c0 3) 0)]) (rest := []) (mc' := 0) (ms' := 0) (dK D_FP_placeAds 5 rfl) K_FP_155 (fitK rfl) (ltK rfl) (hw_10_4 hc0) rfl (leK rfl) (leK rfl) (leK rfl) (tf_History_keep (hw_10_4 hc0) (hw_4_0 (hw_10_3 hc0)) e_p1) (kcU ?_)
  refine g_aloadn (pc := 14) (i0 := 0) (j := 0) (dK D_FP_placeAds 6 rfl) rfl rfl ?_
  refine vg_getO (pc := 15) (ci := 10) (f := 2) (dK D_FP_placeAds 7 rfl) q_424 hc0 (ltK rfl) (ltK rfl) rfl ?_
  refine bnE h (fun p2 e_p2 h => ?_)
  refine vg_cV (pc := 18) (As := []) (rest := []) (mc' := 0) (ms' := 0) (dK D_FP_placeAds 8 rfl) K_FP_280 (fitK rfl) (ltK rfl) (hw_10_2 hc0) rfl (leK rfl) (leK rfl) (leK rfl) (tf_Searches_placeFreeAds (hw_10_2 hc0) e_p2) (kcI (fun h_p2 => ?_))
  exact vg_iretI (pc := 21) (r := p2.1) (dK D_FP_placeAds 9 rfl) rfl (leK rfl) (leK rfl) (fun _ => rfl) (by obtain rfl := Option.some.inj h; exact ⟨rfl, h_p2, rfl⟩)
def lb_Searches_layFirst_2 (c0 : Nat) (a1 : Int) (S : St) (go : Int → Option ((Bool × St) ⊕ (Unit))) (a2 : Int) : Option ((Bool × St) ⊕ (Unit)) := if (g S (tgt c0 0) 1) < a2 then (some (.inr ())) else (bnO (fn_Plan_layReason (tgt c0 0) a1 a2 S) fun p1 => if p1 = 0 then (if 0 ≤ a1 ∧ a1 < 10 then (nm (u S (tgt (tgt (tgt c0 1) 1) 4) a1.toNat a2) fun S4 => bnO (fn_Plan_recount (tgt c0 0) S4) fun p5 => some (.inl (true, p5))) else none) else (nm (wr (a2 + 1)) fun v2 => go v2))
def lo_Searches_layFirst_2 (c0 : Nat) (a1 : Int) (S : St) : Nat → Int → Option ((Bool × St) ⊕ (Unit)) := lp fun go p => lb_Searches_layFirst_2 c0 a1 S go p
theorem tl_Searches_layFirst_2 {E : EV} {X : XT} {c0 : Nat} (hc0 : HC X 6 c0) {a1 : Int} (ha1 : inR a1) {S : St} {K : RK → PS → Prop} {q : (Bool × St) ⊕ (Unit)} (hx : ∀ p, q = .inr p → Go E M_Searches_layFirst 0 0 53 [] [] (WX X S) 0 0 K) (hr : ∀ p, q = .inl p → K (.inl (some (V (bi p.1)))) (WX X p.2)) : ∀ n a, lo_Searches_layFirst_2 c0 a1 S n a = some q → inR a → Go E M_Searches_layFirst 0 0 2 [(0, .ref c0), (1, V a1), (2, V a)] [] (WX X S) 0 0 K := by
  refine lp_ind (P := fun a : Int => inR a → Go E M_Searches_layFirst 0 0 2 [(0, .ref c0), (1, V a1), (2, V a)] [] (WX X S) 0 0 K) (fun go ih a2 h => ?_)
  intro ha2
  show Go E M_Searches_layFirst 0 0 2 [(0, .ref c0), (1, V a1), (2, V a2)] [] (WX X S) 0 0 K
  replace h : lb_Searches_layFirst_2 c0 a1 S go a2 = some q := h
  unfold lb_Searches_layFirst_2 at h
  refine g_iloadn (pc := 2) (i0 := 2) (j := 2) (dK D_Searches_layFirst 2 rfl) rfl rfl ?_
  refine g_aloadn (pc := 3) (i0 := 0) (j := 0) (dK D_Searches_layFirst 3 rfl) rfl rfl ?_
  refine vg_getO (pc := 4) (ci := 6) (f := 0) (dK D_Searches_layFirst 4 rfl) q_368 hc0 (ltK rfl) (ltK rfl) rfl ?_
  refine vg_getI (pc := 7) (ci := 4) (f := 1) (dK D_Searches_layFirst 5 rfl) q_295 (hw_6_0 hc0) (ltK rfl) (ltK rfl) rfl ?_
  refine vg_icmp_gt (pc := 10) (t := 53) (dK D_Searches_layFirst 6 rfl) rfl ha2 (g_in _ _ _) (fun hc7 => ?_) (fun hc7 => ?_)
  · replace h := ifP h hc7
    refine gL_weak (ls' := []) sbn ?_
    exact hx _ (Option.some.inj h).symm 
  · replace h := ifN h hc7
    refine g_aloadn (pc := 13) (i0 := 0) (j := 0) (dK D_Searches_layFirst 7 rfl) rfl rfl ?_
    refine vg_getO (pc := 14) (ci := 6) (f := 0) (dK D_Searches_layFirst 8 rfl) q_368 hc0 (ltK rfl) (ltK rfl) rfl ?_
    refine g_iloadn (pc := 17) (i0 := 1) (j := 1) (dK D_Searches_layFirst 9 rfl) rfl rfl ?_
    refine g_iloadn (pc := 18) (i0 := 2) (j := 2) (dK D_Searches_layFirst 10 rfl) rfl rfl ?_
    refine bnE h (fun p1 e_p1 h => ?_)
    refine vg_cV (pc := 19) (As := [V a1, V a2]) (rest := []) (mc' := 0) (ms' := 0) (dK D_Searches_layFirst 11 rfl) K_Searches_102 (fitK rfl) (ltK rfl) (hw_6_0 hc0) rfl (leK rfl) (leK rfl) (leK rfl) (tf_Plan_layReason (hw_6_0 hc0) ha1 ha2 e_p1) (kcI (fun h_p1 => ?_))
    refine vg_if_ne (pc := 22) (t := 47) (dK D_Searches_layFirst 12 rfl) rfl h_p1 (fun hc6 => ?_) (fun hc6 => ?_)
    · replace h := ifN h hc6
      refine nmE h (fun v2 e_v2 h => ?_)
      refine vg_iinc (pc := 47) (j := 2) (a := a2) (z := 1) (ls2 := [(2, V v2), (0, .ref c0), (1, V a1)]) (dK D_Searches_layFirst 25 rfl) rfl e_v2 (ltK rfl) rfl ?_
      refine g_goto (pc := 50) (tgt := 2) (dK D_Searches_layFirst 26 rfl) rfl ?_
      refine gL_weak (ls' := [(0, .ref c0), (1, V a1), (2, V v2)]) (sbc 1 rfl (sbc 2 rfl (sbc 0 rfl sbn))) ?_
      replace h := ih _ h
      exact h (Vn_in e_v2)
    · replace h := ifP h hc6
      refine g_aloadn (pc := 25) (i0 := 0) (j := 0) (dK D_Searches_layFirst 13 rfl) rfl rfl ?_
      refine vg_getO (pc := 26) (ci := 6) (f := 1) (dK D_Searches_layFirst 14 rfl) q_370 hc0 (ltK rfl) (ltK rfl) rfl ?_
      refine vg_getO (pc := 29) (ci := 8) (f := 1) (dK D_Searches_layFirst 15 rfl) q_227 (hw_6_1 hc0) (ltK rfl) (ltK rfl) rfl ?_
      refine vg_getA (pc := 32) (ci := 9) (f := 4) (dK D_Searches_layFirst 16 rfl) q_149 (hw_8_1 (hw_6_1 hc0)) (ltK rfl) (ltK rfl) rfl ?_
      refine g_iloadn (pc := 35) (i0 := 1) (j := 1) (dK D_Searches_layFirst 17 rfl) rfl rfl ?_
      refine g_iloadn (pc := 36) (i0 := 2) (j := 2) (dK D_Searches_layFirst 18 rfl) rfl rfl ?_
      refine gdE h (fun hi3 h => ?_)
      refine nmE h (fun S4 e_S4 h => ?_)
      refine vg_iastore (pc := 37) (z := a2) (dK D_Searches_layFirst 19 rfl) (hw_9_4 (hw_8_1 (hw_6_1 hc0))) rfl hi3 rfl e_S4 ?_
      refine g_aloadn (pc := 38) (i0 := 0) (j := 0) (dK D_Searches_layFirst 20 rfl) rfl rfl ?_
      refine vg_getO (pc := 39) (ci := 6) (f := 0) (dK D_Searches_layFirst 21 rfl) q_368 hc0 (ltK rfl) (ltK rfl) rfl ?_
      refine bnE h (fun p5 e_p5 h => ?_)
      refine vg_cV (pc := 42) (As := []) (rest := []) (mc' := 0) (ms' := 0) (dK D_Searches_layFirst 22 rfl) K_Searches_71 (fitK rfl) (ltK rfl) (hw_6_0 hc0) rfl (leK rfl) (leK rfl) (leK rfl) (tf_Plan_recount (hw_6_0 hc0) e_p5) (kcU ?_)
      refine vg_iconst (pc := 45) (dK D_Searches_layFirst 23 rfl) ?_
      exact vg_iretB (pc := 46) (b := true) (dK D_Searches_layFirst 24 rfl) rfl (leK rfl) (leK rfl) (fun _ => rfl) (hr _ (Option.some.inj h).symm)
def fn_Searches_layFirst (c0 : Nat) (a1 : Int) (S : St) : Option (Bool × St) := bnS (lo_Searches_layFirst_2 c0 a1 S FU 1) (fun p9 => some (p9.1, p9.2)) fun p8 => some (false, S)
theorem tf_Searches_layFirst {E : EV} {X : XT} {c0 : Nat} (hc0 : HC X 6 c0) {a1 : Int} (ha1 : inR a1) {S : St} {q : Bool × St} (h : fn_Searches_layFirst c0 a1 S = some q) : Ev E M_Searches_layFirst [.ref c0, V a1] (WX X S) 0 0 (KB X q.1 q.2) := by
  refine Ev.of pn_Searches rfl (leK rfl) ?_
  show Go E M_Searches_layFirst 0 0 0 [(0, .ref c0), (1, V a1)] [] (WX X S) 0 0 (KB X q.1 q.2)
  unfold fn_Searches_layFirst at h
  refine vg_iconst (pc := 0) (dK D_Searches_layFirst 0 rfl) ?_
  refine g_istoren (pc := 1) (i0 := 2) (ls2 := [(2, V 1), (0, .ref c0), (1, V a1)]) (dK D_Searches_layFirst 1 rfl) rfl (ltK rfl) rfl ?_
  refine bnSE h (fun p9 e_p9 h => ?_) (fun p8 e_p8 h => ?_)
  · refine gL_weak (ls' := [(0, .ref c0), (1, V a1), (2, V 1)]) (sbc 1 rfl (sbc 2 rfl (sbc 0 rfl sbn))) ?_
    refine tl_Searches_layFirst_2 hc0 ha1 (fun _ e => slr e) (fun p e => ?_) FU 1 e_p9 (inRk rfl)
    have e := Sum.inl.inj e
    subst e
    exact (by obtain rfl := Option.some.inj h; exact ⟨rfl, rfl⟩)
  · refine gL_weak (ls' := [(0, .ref c0), (1, V a1), (2, V 1)]) (sbc 1 rfl (sbc 2 rfl (sbc 0 rfl sbn))) ?_
    refine tl_Searches_layFirst_2 hc0 ha1 (fun p e => ?_) (fun _ e => srl e) FU 1 e_p8 (inRk rfl)
    have e := Sum.inr.inj e
    subst e
    refine vg_iconst (pc := 53) (dK D_Searches_layFirst 27 rfl) ?_
    exact vg_iretB (pc := 54) (b := false) (dK D_Searches_layFirst 28 rfl) rfl (leK rfl) (leK rfl) (fun _ => rfl) (by obtain rfl := Option.some.inj h; exact ⟨rfl, rfl⟩)
def lb_Searches_layFreeStories_12 (c0 : Nat) (a2 : Int) (go : Int × Int × St → Option (Int × St)) (a1 : Int) (a3 : Int) (S : St) : Option (Int × St) := if (g S (tgt (tgt c0 1) 1) 5) ≤ a3 then (some (a1, S)) else (if 0 ≤ a3 ∧ a3 < 10 then (if (g S (tgt (tgt (tgt c0 1) 1) 0) a3.toNat) = a2 then (if (g S (tgt (tgt (tgt c0 1) 1) 4) a3.toNat) = 0 then (bnO (fn_Searches_layFirst c0 a3 S) fun p4 => if p4.1 = true then (nm (wr (a1 + 1)) fun v7 => nm (wr (a3 + 1)) fun v8 => go (v7, v8, p4.2)) else (nm (wr (a3 + 1)) fun v6 => go (a1, v6, p4.2))) else (nm (wr (a3 + 1)) fun v3 => go (a1, v3, S))) else (nm (wr (a3 + 1)) fun v2 => go (a1, v2, S))) else none)
def lo_Searches_layFreeStories_12 (c0 : Nat) (a2 : Int) : Nat → Int × Int × St → Option (Int × St) := lp fun go p => lb_Searches_layFreeStories_12 c0 a2 go p.1 p.2.1 p.2.2
theorem tl_Searches_layFreeStories_12 {E : EV} {X : XT} {c0 : Nat} (hc0 : HC X 6 c0) {a2 : Int} (ha2 : inR a2) {K : RK → PS → Prop} {q : Int × St} (hx : inR q.1 → Go E M_Searches_layFreeStories 0 0 74 [(0, .ref c0), (1, V q.1), (2, V a2)] [] (WX X q.2) 0 0 K) : ∀ n a, lo_Searches_layFreeStories_12 c0 a2 n a = some q → inR a.1 → inR a.2.1 → Go E M_Searches_layFreeStories 0 0 12 [(0, .ref c0), (1, V a.1), (2, V a2), (3, V a.2.1)] [] (WX X a.2.2) 0 0 K := by
  refine lp_ind (P := fun a : Int × Int × St => inR a.1 → inR a.2.1 → Go E M_Searches_layFreeStories 0 0 12 [(0, .ref c0), (1, V a.1), (2, V a2), (3, V a.2.1)] [] (WX X a.2.2) 0 0 K) (fun go ih a h => ?_)
  obtain ⟨a1, a3, S⟩ := a
  intro ha1 ha3
  show Go E M_Searches_layFreeStories 0 0 12 [(0, .ref c0), (1, V a1), (2, V a2), (3, V a3)] [] (WX X S) 0 0 K
  replace h : lb_Searches_layFreeStories_12 c0 a2 go a1 a3 S = some q := h
  unfold lb_Searches_layFreeStories_12 at h
  refine g_iloadn (pc := 12) (i0 := 3) (j := 3) (dK D_Searches_layFreeStories 9 rfl) rfl rfl ?_
  refine g_aloadn (pc := 13) (i0 := 0) (j := 0) (dK D_Searches_layFreeStories 10 rfl) rfl rfl ?_
  refine vg_getO (pc := 14) (ci := 6) (f := 1) (dK D_Searches_layFreeStories 11 rfl) q_370 hc0 (ltK rfl) (ltK rfl) rfl ?_
  refine vg_getO (pc := 17) (ci := 8) (f := 1) (dK D_Searches_layFreeStories 12 rfl) q_227 (hw_6_1 hc0) (ltK rfl) (ltK rfl) rfl ?_
  refine vg_getI (pc := 20) (ci := 9) (f := 5) (dK D_Searches_layFreeStories 13 rfl) q_155 (hw_8_1 (hw_6_1 hc0)) (ltK rfl) (ltK rfl) rfl ?_
  refine vg_icmp_ge (pc := 23) (t := 74) (dK D_Searches_layFreeStories 14 rfl) rfl ha3 (g_in _ _ _) (fun hc11 => ?_) (fun hc11 => ?_)
  · replace h := ifP h hc11
    obtain rfl := Option.some.inj h
    refine gL_weak (ls' := [(0, .ref c0), (1, V a1), (2, V a2)]) (sbc 0 rfl (sbc 1 rfl (sbc 2 rfl sbn))) ?_
    exact hx ha1
  · replace h := ifN h hc11
    refine g_aloadn (pc := 26) (i0 := 0) (j := 0) (dK D_Searches_layFreeStories 15 rfl) rfl rfl ?_
    refine vg_getO (pc := 27) (ci := 6) (f := 1) (dK D_Searches_layFreeStories 16 rfl) q_370 hc0 (ltK rfl) (ltK rfl) rfl ?_
    refine vg_getO (pc := 30) (ci := 8) (f := 1) (dK D_Searches_layFreeStories 17 rfl) q_227 (hw_6_1 hc0) (ltK rfl) (ltK rfl) rfl ?_
    refine vg_getA (pc := 33) (ci := 9) (f := 0) (dK D_Searches_layFreeStories 18 rfl) q_134 (hw_8_1 (hw_6_1 hc0)) (ltK rfl) (ltK rfl) rfl ?_
    refine g_iloadn (pc := 36) (i0 := 3) (j := 3) (dK D_Searches_layFreeStories 19 rfl) rfl rfl ?_
    refine gdE h (fun hi1 h => ?_)
    refine vg_iaload (pc := 37) (j := a3.toNat) (dK D_Searches_layFreeStories 20 rfl) (hw_9_0 (hw_8_1 (hw_6_1 hc0))) rfl hi1 rfl ?_
    refine g_iloadn (pc := 38) (i0 := 2) (j := 2) (dK D_Searches_layFreeStories 21 rfl) rfl rfl ?_
    refine vg_icmp_ne (pc := 39) (t := 68) (dK D_Searches_layFreeStories 22 rfl) rfl (g_in _ _ _) ha2 (fun hc10 => ?_) (fun hc10 => ?_)
    · replace h := ifN h hc10
      refine nmE h (fun v2 e_v2 h => ?_)
      refine vg_iinc (pc := 68) (j := 3) (a := a3) (z := 1) (ls2 := [(3, V v2), (0, .ref c0), (1, V a1), (2, V a2)]) (dK D_Searches_layFreeStories 35 rfl) rfl e_v2 (ltK rfl) rfl ?_
      refine g_goto (pc := 71) (tgt := 12) (dK D_Searches_layFreeStories 36 rfl) rfl ?_
      refine gL_weak (ls' := [(0, .ref c0), (1, V a1), (2, V a2), (3, V v2)]) (sbc 1 rfl (sbc 2 rfl (sbc 3 rfl (sbc 0 rfl sbn)))) ?_
      replace h := ih _ h
      exact h ha1 (Vn_in e_v2)
    · replace h := ifP h hc10
      refine g_aloadn (pc := 42) (i0 := 0) (j := 0) (dK D_Searches_layFreeStories 23 rfl) rfl rfl ?_
      refine vg_getO (pc := 43) (ci := 6) (f := 1) (dK D_Searches_layFreeStories 24 rfl) q_370 hc0 (ltK rfl) (ltK rfl) rfl ?_
      refine vg_getO (pc := 46) (ci := 8) (f := 1) (dK D_Searches_layFreeStories 25 rfl) q_227 (hw_6_1 hc0) (ltK rfl) (ltK rfl) rfl ?_
      refine vg_getA (pc := 49) (ci := 9) (f := 4) (dK D_Searches_layFreeStories 26 rfl) q_149 (hw_8_1 (hw_6_1 hc0)) (ltK rfl) (ltK rfl) rfl ?_
      refine g_iloadn (pc := 52) (i0 := 3) (j := 3) (dK D_Searches_layFreeStories 27 rfl) rfl rfl ?_
      refine vg_iaload (pc := 53) (j := a3.toNat) (dK D_Searches_layFreeStories 28 rfl) (hw_9_4 (hw_8_1 (hw_6_1 hc0))) rfl hi1 rfl ?_
      refine vg_if_ne (pc := 54) (t := 68) (dK D_Searches_layFreeStories 29 rfl) rfl (g_in _ _ _) (fun hc9 => ?_) (fun hc9 => ?_)
      · replace h := ifN h hc9
        refine nmE h (fun v3 e_v3 h => ?_)
        refine vg_iinc (pc := 68) (j := 3) (a := a3) (z := 1) (ls2 := [(3, V v3), (0, .ref c0), (1, V a1), (2, V a2)]) (dK D_Searches_layFreeStories 35 rfl) rfl e_v3 (ltK rfl) rfl ?_
        refine g_goto (pc := 71) (tgt := 12) (dK D_Searches_layFreeStories 36 rfl) rfl ?_
        refine gL_weak (ls' := [(0, .ref c0), (1, V a1), (2, V a2), (3, V v3)]) (sbc 1 rfl (sbc 2 rfl (sbc 3 rfl (sbc 0 rfl sbn)))) ?_
        replace h := ih _ h
        exact h ha1 (Vn_in e_v3)
      · replace h := ifP h hc9
        refine g_aloadn (pc := 57) (i0 := 0) (j := 0) (dK D_Searches_layFreeStories 30 rfl) rfl rfl ?_
        refine g_iloadn (pc := 58) (i0 := 3) (j := 3) (dK D_Searches_layFreeStories 31 rfl) rfl rfl ?_
        refine bnE h (fun p4 e_p4 h => ?_)
        refine vg_cV (pc := 59) (As := [V a3]) (rest := []) (mc' := 0) (ms' := 0) (dK D_Searches_layFreeStories 32 rfl) K_Searches_95 (fitK rfl) (ltK rfl) hc0 rfl (leK rfl) (leK rfl) (leK rfl) (tf_Searches_layFirst hc0 ha3 e_p4) (kcB ?_)
        refine vg_ifB_eq (pc := 62) (b := p4.1) (t := 68) (dK D_Searches_layFreeStories 33 rfl) rfl (fun hc5 => ?_) (fun hc5 => ?_)
        · replace h := ifP h hc5
          refine nmE h (fun v7 e_v7 h => ?_)
          refine vg_iinc (pc := 65) (j := 1) (a := a1) (z := 1) (ls2 := [(1, V v7), (0, .ref c0), (2, V a2), (3, V a3)]) (dK D_Searches_layFreeStories 34 rfl) rfl e_v7 (ltK rfl) rfl ?_
          refine nmE h (fun v8 e_v8 h => ?_)
          refine vg_iinc (pc := 68) (j := 3) (a := a3) (z := 1) (ls2 := [(3, V v8), (1, V v7), (0, .ref c0), (2, V a2)]) (dK D_Searches_layFreeStories 35 rfl) rfl e_v8 (ltK rfl) rfl ?_
          refine g_goto (pc := 71) (tgt := 12) (dK D_Searches_layFreeStories 36 rfl) rfl ?_
          refine gL_weak (ls' := [(0, .ref c0), (1, V v7), (2, V a2), (3, V v8)]) (sbc 2 rfl (sbc 1 rfl (sbc 3 rfl (sbc 0 rfl sbn)))) ?_
          replace h := ih _ h
          exact h (Vn_in e_v7) (Vn_in e_v8)
        · replace h := ifN h hc5
          refine nmE h (fun v6 e_v6 h => ?_)
          refine vg_iinc (pc := 68) (j := 3) (a := a3) (z := 1) (ls2 := [(3, V v6), (0, .ref c0), (1, V a1), (2, V a2)]) (dK D_Searches_layFreeStories 35 rfl) rfl e_v6 (ltK rfl) rfl ?_
          refine g_goto (pc := 71) (tgt := 12) (dK D_Searches_layFreeStories 36 rfl) rfl ?_
          refine gL_weak (ls' := [(0, .ref c0), (1, V a1), (2, V a2), (3, V v6)]) (sbc 1 rfl (sbc 2 rfl (sbc 3 rfl (sbc 0 rfl sbn)))) ?_
          replace h := ih _ h
          exact h ha1 (Vn_in e_v6)
def lb_Searches_layFreeStories_5 (c0 : Nat) (go : Int × Int × St → Option (Int × St)) (a1 : Int) (a2 : Int) (S : St) : Option (Int × St) := if a2 < 1 then (some (a1, S)) else (bnO (lo_Searches_layFreeStories_12 c0 a2 FU (a1, 0, S)) fun p12 => nm (wr (a2 + (-1))) fun v13 => go (p12.1, v13, p12.2))
def lo_Searches_layFreeStories_5 (c0 : Nat) : Nat → Int × Int × St → Option (Int × St) := lp fun go p => lb_Searches_layFreeStories_5 c0 go p.1 p.2.1 p.2.2
theorem tl_Searches_layFreeStories_5 {E : EV} {X : XT} {c0 : Nat} (hc0 : HC X 6 c0) {K : RK → PS → Prop} {q : Int × St} (hx : inR q.1 → Go E M_Searches_layFreeStories 0 0 80 [(1, V q.1)] [] (WX X q.2) 0 0 K) : ∀ n a, lo_Searches_layFreeStories_5 c0 n a = some q → inR a.1 → inR a.2.1 → Go E M_Searches_layFreeStories 0 0 5 [(0, .ref c0), (1, V a.1), (2, V a.2.1)] [] (WX X a.2.2) 0 0 K := by
  refine lp_ind (P := fun a : Int × Int × St => inR a.1 → inR a.2.1 → Go E M_Searches_layFreeStories 0 0 5 [(0, .ref c0), (1, V a.1), (2, V a.2.1)] [] (WX X a.2.2) 0 0 K) (fun go ih a h => ?_)
  obtain ⟨a1, a2, S⟩ := a
  intro ha1 ha2
  show Go E M_Searches_layFreeStories 0 0 5 [(0, .ref c0), (1, V a1), (2, V a2)] [] (WX X S) 0 0 K
  replace h : lb_Searches_layFreeStories_5 c0 go a1 a2 S = some q := h
  unfold lb_Searches_layFreeStories_5 at h
  refine g_iloadn (pc := 5) (i0 := 2) (j := 2) (dK D_Searches_layFreeStories 4 rfl) rfl rfl ?_
  refine vg_iconst (pc := 6) (dK D_Searches_layFreeStories 5 rfl) ?_
  refine vg_icmp_lt (pc := 7) (t := 80) (dK D_Searches_layFreeStories 6 rfl) rfl ha2 (inRk rfl) (fun hc14 => ?_) (fun hc14 => ?_)
  · replace h := ifP h hc14
    obtain rfl := Option.some.inj h
    refine gL_weak (ls' := [(1, V a1)]) (sbc 1 rfl sbn) ?_
    exact hx ha1
  · replace h := ifN h hc14
    refine vg_iconst (pc := 10) (dK D_Searches_layFreeStories 7 rfl) ?_
    refine g_istoren (pc := 11) (i0 := 3) (ls2 := [(3, V 0), (0, .ref c0), (1, V a1), (2, V a2)]) (dK D_Searches_layFreeStories 8 rfl) rfl (ltK rfl) rfl ?_
    refine bnE h (fun p12 e_p12 h => ?_)
    refine gL_weak (ls' := [(0, .ref c0), (1, V a1), (2, V a2), (3, V 0)]) (sbc 1 rfl (sbc 2 rfl (sbc 3 rfl (sbc 0 rfl sbn)))) ?_
    refine tl_Searches_layFreeStories_12 hc0 ha2 (fun hx1_p12 => ?_) FU (a1, 0, S) e_p12 ha1 (inRk rfl)
    refine nmE h (fun v13 e_v13 h => ?_)
    refine vg_iinc (pc := 74) (j := 2) (a := a2) (z := -1) (ls2 := [(2, V v13), (0, .ref c0), (1, V p12.1)]) (dK D_Searches_layFreeStories 37 rfl) rfl e_v13 (ltK rfl) rfl ?_
    refine g_goto (pc := 77) (tgt := 5) (dK D_Searches_layFreeStories 38 rfl) rfl ?_
    refine gL_weak (ls' := [(0, .ref c0), (1, V p12.1), (2, V v13)]) (sbc 1 rfl (sbc 2 rfl (sbc 0 rfl sbn))) ?_
    replace h := ih _ h
    exact h hx1_p12 (Vn_in e_v13)
def fn_Searches_layFreeStories (c0 : Nat) (S : St) : Option (Int × St) := bnO (lo_Searches_layFreeStories_5 c0 FU (0, 8, S)) fun p15 => some (p15.1, p15.2)
theorem tf_Searches_layFreeStories {E : EV} {X : XT} {c0 : Nat} (hc0 : HC X 6 c0) {S : St} {q : Int × St} (h : fn_Searches_layFreeStories c0 S = some q) : Ev E M_Searches_layFreeStories [.ref c0] (WX X S) 0 0 (KI X q.1 q.2) := by
  refine Ev.of pn_Searches rfl (leK rfl) ?_
  show Go E M_Searches_layFreeStories 0 0 0 [(0, .ref c0)] [] (WX X S) 0 0 (KI X q.1 q.2)
  unfold fn_Searches_layFreeStories at h
  refine vg_iconst (pc := 0) (dK D_Searches_layFreeStories 0 rfl) ?_
  refine g_istoren (pc := 1) (i0 := 1) (ls2 := [(1, V 0), (0, .ref c0)]) (dK D_Searches_layFreeStories 1 rfl) rfl (ltK rfl) rfl ?_
  refine vg_bipush (pc := 2) (dK D_Searches_layFreeStories 2 rfl) rfl ?_
  refine g_istoren (pc := 4) (i0 := 2) (ls2 := [(2, V 8), (1, V 0), (0, .ref c0)]) (dK D_Searches_layFreeStories 3 rfl) rfl (ltK rfl) rfl ?_
  refine bnE h (fun p15 e_p15 h => ?_)
  refine gL_weak (ls' := [(0, .ref c0), (1, V 0), (2, V 8)]) (sbc 2 rfl (sbc 1 rfl (sbc 0 rfl sbn))) ?_
  refine tl_Searches_layFreeStories_5 hc0 (fun hx1_p15 => ?_) FU (0, 8, S) e_p15 (inRk rfl) (inRk rfl)
  refine g_iloadn (pc := 80) (i0 := 1) (j := 0) (dK D_Searches_layFreeStories 39 rfl) rfl rfl ?_
  exact vg_iretI (pc := 81) (r := p15.1) (dK D_Searches_layFreeStories 40 rfl) rfl (leK rfl) (leK rfl) (fun _ => rfl) (by obtain rfl := Option.some.inj h; exact ⟨rfl, hx1_p15, rfl⟩)
def fn_FP_layStories (c0 : Nat) (S : St) : Option (Int × St) := bnO (fn_History_keep (tgt c0 4) (tgt (tgt c0 3) 0) S) fun p1 => bnO (fn_Searches_layFreeStories (tgt c0 2) p1) fun p2 => some (p2.1, p2.2)
theorem tf_FP_layStories {E : EV} {X : XT} {c0 : Nat} (hc0 : HC X 10 c0) {S : St} {q : Int × St} (h : fn_FP_layStories c0 S = some q) : Ev E M_FP_layStories [.ref c0] (WX X S) 0 0 (KI X q.1 q.2) := by
  refine Ev.of pn_FP rfl (leK rfl) ?_
  show Go E M_FP_layStories 0 0 0 [(0, .ref c0)] [] (WX X S) 0 0 (KI X q.1 q.2)
  unfold fn_FP_layStories at h
  refine g_aloadn (pc := 0) (i0 := 0) (j := 0) (dK D_FP_layStories 0 rfl) rfl rfl ?_
  refine vg_getO (pc := 1) (ci := 10) (f := 4) (dK D_FP_layStories 1 rfl) q_426 hc0 (ltK rfl) (ltK rfl) rfl ?_
  refine g_aloadn (pc := 4) (i0 := 0) (j := 0) (dK D_FP_layStories 2 rfl) rfl rfl ?_
  refine vg_getO (pc := 5) (ci := 10) (f := 3) (dK D_FP_layStories 3 rfl) q_425 hc0 (ltK rfl) (ltK rfl) rfl ?_
  refine vg_getO (pc := 8) (ci := 4) (f := 0) (dK D_FP_layStories 4 rfl) q_292 (hw_10_3 hc0) (ltK rfl) (ltK rfl) rfl ?_
  refine bnE h (fun p1 e_p1 h => ?_)
  refine vg_cV (pc := 11) (As := [.ref (tgt (tgt c0 3) 0)]) (rest := []) (mc' := 0) (ms' := 0) (dK D_FP_layStories 5 rfl) K_FP_155 (fitK rfl) (ltK rfl) (hw_10_4 hc0) rfl (leK rfl) (leK rfl) (leK rfl) (tf_History_keep (hw_10_4 hc0) (hw_4_0 (hw_10_3 hc0)) e_p1) (kcU ?_)
  refine g_aloadn (pc := 14) (i0 := 0) (j := 0) (dK D_FP_layStories 6 rfl) rfl rfl ?_
  refine vg_getO (pc := 15) (ci := 10) (f := 2) (dK D_FP_layStories 7 rfl) q_424 hc0 (ltK rfl) (ltK rfl) rfl ?_
  refine bnE h (fun p2 e_p2 h => ?_)
  refine vg_cV (pc := 18) (As := []) (rest := []) (mc' := 0) (ms' := 0) (dK D_FP_layStories 8 rfl) K_FP_283 (fitK rfl) (ltK rfl) (hw_10_2 hc0) rfl (leK rfl) (leK rfl) (leK rfl) (tf_Searches_layFreeStories (hw_10_2 hc0) e_p2) (kcI (fun h_p2 => ?_))
  exact vg_iretI (pc := 21) (r := p2.1) (dK D_FP_layStories 9 rfl) rfl (leK rfl) (leK rfl) (fun _ => rfl) (by obtain rfl := Option.some.inj h; exact ⟨rfl, h_p2, rfl⟩)
def lb_Searches_pagesFor_4 (c0 : Nat) (a1 : Int) (S : St) (go : Int × Int → Option (Int)) (a2 : Int) (a3 : Int) : Option (Int) := if (g S (tgt c0 0) 1) < a3 then (some a2) else (bnO (fn_Plan_adReason (tgt c0 0) a1 a3 S) fun p1 => if p1 = 0 then (nm (wr (a2 + 1)) fun v3 => nm (wr (a3 + 1)) fun v4 => go (v3, v4)) else (nm (wr (a3 + 1)) fun v2 => go (a2, v2)))
def lo_Searches_pagesFor_4 (c0 : Nat) (a1 : Int) (S : St) : Nat → Int × Int → Option (Int) := lp fun go p => lb_Searches_pagesFor_4 c0 a1 S go p.1 p.2
theorem tl_Searches_pagesFor_4 {E : EV} {X : XT} {c0 : Nat} (hc0 : HC X 6 c0) {a1 : Int} (ha1 : inR a1) {S : St} {K : RK → PS → Prop} {q : Int} (hx : inR q → Go E M_Searches_pagesFor 0 0 36 [(2, V q)] [] (WX X S) 0 0 K) : ∀ n a, lo_Searches_pagesFor_4 c0 a1 S n a = some q → inR a.1 → inR a.2 → Go E M_Searches_pagesFor 0 0 4 [(0, .ref c0), (1, V a1), (2, V a.1), (3, V a.2)] [] (WX X S) 0 0 K := by
  refine lp_ind (P := fun a : Int × Int => inR a.1 → inR a.2 → Go E M_Searches_pagesFor 0 0 4 [(0, .ref c0), (1, V a1), (2, V a.1), (3, V a.2)] [] (WX X S) 0 0 K) (fun go ih a h => ?_)
  obtain ⟨a2, a3⟩ := a
  intro ha2 ha3
  show Go E M_Searches_pagesFor 0 0 4 [(0, .ref c0), (1, V a1), (2, V a2), (3, V a3)] [] (WX X S) 0 0 K
  replace h : lb_Searches_pagesFor_4 c0 a1 S go a2 a3 = some q := h
  unfold lb_Searches_pagesFor_4 at h
  refine g_iloadn (pc := 4) (i0 := 3) (j := 3) (dK D_Searches_pagesFor 4 rfl) rfl rfl ?_
  refine g_aloadn (pc := 5) (i0 := 0) (j := 0) (dK D_Searches_pagesFor 5 rfl) rfl rfl ?_
  refine vg_getO (pc := 6) (ci := 6) (f := 0) (dK D_Searches_pagesFor 6 rfl) q_368 hc0 (ltK rfl) (ltK rfl) rfl ?_
  refine vg_getI (pc := 9) (ci := 4) (f := 1) (dK D_Searches_pagesFor 7 rfl) q_295 (hw_6_0 hc0) (ltK rfl) (ltK rfl) rfl ?_
  refine vg_icmp_gt (pc := 12) (t := 36) (dK D_Searches_pagesFor 8 rfl) rfl ha3 (g_in _ _ _) (fun hc6 => ?_) (fun hc6 => ?_)
  · replace h := ifP h hc6
    obtain rfl := Option.some.inj h
    refine gL_weak (ls' := [(2, V a2)]) (sbc 2 rfl sbn) ?_
    exact hx ha2
  · replace h := ifN h hc6
    refine g_aloadn (pc := 15) (i0 := 0) (j := 0) (dK D_Searches_pagesFor 9 rfl) rfl rfl ?_
    refine vg_getO (pc := 16) (ci := 6) (f := 0) (dK D_Searches_pagesFor 10 rfl) q_368 hc0 (ltK rfl) (ltK rfl) rfl ?_
    refine g_iloadn (pc := 19) (i0 := 1) (j := 1) (dK D_Searches_pagesFor 11 rfl) rfl rfl ?_
    refine g_iloadn (pc := 20) (i0 := 3) (j := 3) (dK D_Searches_pagesFor 12 rfl) rfl rfl ?_
    refine bnE h (fun p1 e_p1 h => ?_)
    refine vg_cV (pc := 21) (As := [V a1, V a3]) (rest := []) (mc' := 0) (ms' := 0) (dK D_Searches_pagesFor 13 rfl) K_Searches_105 (fitK rfl) (ltK rfl) (hw_6_0 hc0) rfl (leK rfl) (leK rfl) (leK rfl) (tf_Plan_adReason (hw_6_0 hc0) ha1 ha3 e_p1) (kcI (fun h_p1 => ?_))
    refine vg_if_ne (pc := 24) (t := 30) (dK D_Searches_pagesFor 14 rfl) rfl h_p1 (fun hc5 => ?_) (fun hc5 => ?_)
    · replace h := ifN h hc5
      refine nmE h (fun v2 e_v2 h => ?_)
      refine vg_iinc (pc := 30) (j := 3) (a := a3) (z := 1) (ls2 := [(3, V v2), (0, .ref c0), (1, V a1), (2, V a2)]) (dK D_Searches_pagesFor 16 rfl) rfl e_v2 (ltK rfl) rfl ?_
      refine g_goto (pc := 33) (tgt := 4) (dK D_Searches_pagesFor 17 rfl) rfl ?_
      refine gL_weak (ls' := [(0, .ref c0), (1, V a1), (2, V a2), (3, V v2)]) (sbc 1 rfl (sbc 2 rfl (sbc 3 rfl (sbc 0 rfl sbn)))) ?_
      replace h := ih _ h
      exact h ha2 (Vn_in e_v2)
    · replace h := ifP h hc5
      refine nmE h (fun v3 e_v3 h => ?_)
      refine vg_iinc (pc := 27) (j := 2) (a := a2) (z := 1) (ls2 := [(2, V v3), (0, .ref c0), (1, V a1), (3, V a3)]) (dK D_Searches_pagesFor 15 rfl) rfl e_v3 (ltK rfl) rfl ?_
      refine nmE h (fun v4 e_v4 h => ?_)
      refine vg_iinc (pc := 30) (j := 3) (a := a3) (z := 1) (ls2 := [(3, V v4), (2, V v3), (0, .ref c0), (1, V a1)]) (dK D_Searches_pagesFor 16 rfl) rfl e_v4 (ltK rfl) rfl ?_
      refine g_goto (pc := 33) (tgt := 4) (dK D_Searches_pagesFor 17 rfl) rfl ?_
      refine gL_weak (ls' := [(0, .ref c0), (1, V a1), (2, V v3), (3, V v4)]) (sbc 2 rfl (sbc 3 rfl (sbc 1 rfl (sbc 0 rfl sbn)))) ?_
      replace h := ih _ h
      exact h (Vn_in e_v3) (Vn_in e_v4)
def fn_Searches_pagesFor (c0 : Nat) (a1 : Int) (S : St) : Option (Int) := bnO (lo_Searches_pagesFor_4 c0 a1 S FU (0, 1)) fun p7 => some p7
theorem tf_Searches_pagesFor {E : EV} {X : XT} {c0 : Nat} (hc0 : HC X 6 c0) {a1 : Int} (ha1 : inR a1) {S : St} {q : Int} (h : fn_Searches_pagesFor c0 a1 S = some q) : Ev E M_Searches_pagesFor [.ref c0, V a1] (WX X S) 0 0 (KI X q S) := by
  refine Ev.of pn_Searches rfl (leK rfl) ?_
  show Go E M_Searches_pagesFor 0 0 0 [(0, .ref c0), (1, V a1)] [] (WX X S) 0 0 (KI X q S)
  unfold fn_Searches_pagesFor at h
  refine vg_iconst (pc := 0) (dK D_Searches_pagesFor 0 rfl) ?_
  refine g_istoren (pc := 1) (i0 := 2) (ls2 := [(2, V 0), (0, .ref c0), (1, V a1)]) (dK D_Searches_pagesFor 1 rfl) rfl (ltK rfl) rfl ?_
  refine vg_iconst (pc := 2) (dK D_Searches_pagesFor 2 rfl) ?_
  refine g_istoren (pc := 3) (i0 := 3) (ls2 := [(3, V 1), (2, V 0), (0, .ref c0), (1, V a1)]) (dK D_Searches_pagesFor 3 rfl) rfl (ltK rfl) rfl ?_
  refine bnE h (fun p7 e_p7 h => ?_)
  refine gL_weak (ls' := [(0, .ref c0), (1, V a1), (2, V 0), (3, V 1)]) (sbc 2 rfl (sbc 3 rfl (sbc 1 rfl (sbc 0 rfl sbn)))) ?_
  refine tl_Searches_pagesFor_4 hc0 ha1 (fun hx2_p7 => ?_) FU (0, 1) e_p7 (inRk rfl) (inRk rfl)
  refine g_iloadn (pc := 36) (i0 := 2) (j := 0) (dK D_Searches_pagesFor 18 rfl) rfl rfl ?_
  exact vg_iretI (pc := 37) (r := p7) (dK D_Searches_pagesFor 19 rfl) rfl (leK rfl) (leK rfl) (fun _ => rfl) (by obtain rfl := Option.some.inj h; exact ⟨rfl, hx2_p7, rfl⟩)
def lb_Searches_tightestAd_6 (c0 : Nat) (S : St) (go : Int × Int × Int → Option (Int)) (a1 : Int) (a2 : Int) (a3 : Int) : Option (Int) := if (g S (tgt (tgt c0 1) 0) 7) ≤ a3 then (some a1) else (if 0 ≤ a3 ∧ a3 < 40 then (if (g S (tgt (tgt (tgt c0 1) 0) 6) a3.toNat) = 0 then (bnO (fn_Searches_pagesFor c0 a3 S) fun p3 => if a1 = (-1) then (nm (wr (a3 + 1)) fun v4 => go (a3, p3, v4)) else (if a2 ≤ p3 then (nm (wr (a3 + 1)) fun v5 => go (a1, a2, v5)) else (nm (wr (a3 + 1)) fun v6 => go (a3, p3, v6)))) else (nm (wr (a3 + 1)) fun v2 => go (a1, a2, v2))) else none)
def lo_Searches_tightestAd_6 (c0 : Nat) (S : St) : Nat → Int × Int × Int → Option (Int) := lp fun go p => lb_Searches_tightestAd_6 c0 S go p.1 p.2.1 p.2.2
theorem tl_Searches_tightestAd_6 {E : EV} {X : XT} {c0 : Nat} (hc0 : HC X 6 c0) {S : St} {K : RK → PS → Prop} {q : Int} (hx : inR q → Go E M_Searches_tightestAd 0 0 64 [(1, V q)] [] (WX X S) 0 0 K) : ∀ n a, lo_Searches_tightestAd_6 c0 S n a = some q → inR a.1 → inR a.2.1 → inR a.2.2 → Go E M_Searches_tightestAd 0 0 6 [(0, .ref c0), (1, V a.1), (2, V a.2.1), (3, V a.2.2)] [] (WX X S) 0 0 K := by
  refine lp_ind (P := fun a : Int × Int × Int => inR a.1 → inR a.2.1 → inR a.2.2 → Go E M_Searches_tightestAd 0 0 6 [(0, .ref c0), (1, V a.1), (2, V a.2.1), (3, V a.2.2)] [] (WX X S) 0 0 K) (fun go ih a h => ?_)
  obtain ⟨a1, a2, a3⟩ := a
  intro ha1 ha2 ha3
  show Go E M_Searches_tightestAd 0 0 6 [(0, .ref c0), (1, V a1), (2, V a2), (3, V a3)] [] (WX X S) 0 0 K
  replace h : lb_Searches_tightestAd_6 c0 S go a1 a2 a3 = some q := h
  unfold lb_Searches_tightestAd_6 at h
  refine g_iloadn (pc := 6) (i0 := 3) (j := 3) (dK D_Searches_tightestAd 6 rfl) rfl rfl ?_
  refine g_aloadn (pc := 7) (i0 := 0) (j := 0) (dK D_Searches_tightestAd 7 rfl) rfl rfl ?_
  refine vg_getO (pc := 8) (ci := 6) (f := 1) (dK D_Searches_tightestAd 8 rfl) q_370 hc0 (ltK rfl) (ltK rfl) rfl ?_
  refine vg_getO (pc := 11) (ci := 8) (f := 0) (dK D_Searches_tightestAd 9 rfl) q_221 (hw_6_1 hc0) (ltK rfl) (ltK rfl) rfl ?_
  refine vg_getI (pc := 14) (ci := 0) (f := 7) (dK D_Searches_tightestAd 10 rfl) q_106 (hw_8_0 (hw_6_1 hc0)) (ltK rfl) (ltK rfl) rfl ?_
  refine vg_icmp_ge (pc := 17) (t := 64) (dK D_Searches_tightestAd 11 rfl) rfl ha3 (g_in _ _ _) (fun hc10 => ?_) (fun hc10 => ?_)
  · replace h := ifP h hc10
    obtain rfl := Option.some.inj h
    refine gL_weak (ls' := [(1, V a1)]) (sbc 1 rfl sbn) ?_
    exact hx ha1
  · replace h := ifN h hc10
    refine g_aloadn (pc := 20) (i0 := 0) (j := 0) (dK D_Searches_tightestAd 12 rfl) rfl rfl ?_
    refine vg_getO (pc := 21) (ci := 6) (f := 1) (dK D_Searches_tightestAd 13 rfl) q_370 hc0 (ltK rfl) (ltK rfl) rfl ?_
    refine vg_getO (pc := 24) (ci := 8) (f := 0) (dK D_Searches_tightestAd 14 rfl) q_221 (hw_6_1 hc0) (ltK rfl) (ltK rfl) rfl ?_
    refine vg_getA (pc := 27) (ci := 0) (f := 6) (dK D_Searches_tightestAd 15 rfl) q_101 (hw_8_0 (hw_6_1 hc0)) (ltK rfl) (ltK rfl) rfl ?_
    refine g_iloadn (pc := 30) (i0 := 3) (j := 3) (dK D_Searches_tightestAd 16 rfl) rfl rfl ?_
    refine gdE h (fun hi1 h => ?_)
    refine vg_iaload (pc := 31) (j := a3.toNat) (dK D_Searches_tightestAd 17 rfl) (hw_0_6 (hw_8_0 (hw_6_1 hc0))) rfl hi1 rfl ?_
    refine vg_if_ne (pc := 32) (t := 58) (dK D_Searches_tightestAd 18 rfl) rfl (g_in _ _ _) (fun hc9 => ?_) (fun hc9 => ?_)
    · replace h := ifN h hc9
      refine nmE h (fun v2 e_v2 h => ?_)
      refine vg_iinc (pc := 58) (j := 3) (a := a3) (z := 1) (ls2 := [(3, V v2), (0, .ref c0), (1, V a1), (2, V a2)]) (dK D_Searches_tightestAd 33 rfl) rfl e_v2 (ltK rfl) rfl ?_
      refine g_goto (pc := 61) (tgt := 6) (dK D_Searches_tightestAd 34 rfl) rfl ?_
      refine gL_weak (ls' := [(0, .ref c0), (1, V a1), (2, V a2), (3, V v2)]) (sbc 1 rfl (sbc 2 rfl (sbc 3 rfl (sbc 0 rfl sbn)))) ?_
      replace h := ih _ h
      exact h ha1 ha2 (Vn_in e_v2)
    · replace h := ifP h hc9
      refine g_aloadn (pc := 35) (i0 := 0) (j := 0) (dK D_Searches_tightestAd 19 rfl) rfl rfl ?_
      refine g_iloadn (pc := 36) (i0 := 3) (j := 3) (dK D_Searches_tightestAd 20 rfl) rfl rfl ?_
      refine bnE h (fun p3 e_p3 h => ?_)
      refine vg_cV (pc := 37) (As := [V a3]) (rest := []) (mc' := 0) (ms' := 0) (dK D_Searches_tightestAd 21 rfl) K_Searches_108 (fitK rfl) (ltK rfl) hc0 rfl (leK rfl) (leK rfl) (leK rfl) (tf_Searches_pagesFor hc0 ha3 e_p3) (kcI (fun h_p3 => ?_))
      refine g_istore (pc := 40) (ls2 := [(4, V p3), (0, .ref c0), (1, V a1), (2, V a2), (3, V a3)]) (dK D_Searches_tightestAd 22 rfl) (ltK rfl) rfl ?_
      refine g_iloadn (pc := 42) (i0 := 1) (j := 2) (dK D_Searches_tightestAd 23 rfl) rfl rfl ?_
      refine vg_iconst (pc := 43) (dK D_Searches_tightestAd 24 rfl) ?_
      refine vg_icmp_eq (pc := 44) (t := 53) (dK D_Searches_tightestAd 25 rfl) rfl ha1 (inRk rfl) (fun hc8 => ?_) (fun hc8 => ?_)
      · replace h := ifP h hc8
        refine g_iloadn (pc := 53) (i0 := 3) (j := 4) (dK D_Searches_tightestAd 29 rfl) rfl rfl ?_
        refine g_istoren (pc := 54) (i0 := 1) (ls2 := [(1, V a3), (4, V p3), (0, .ref c0), (2, V a2), (3, V a3)]) (dK D_Searches_tightestAd 30 rfl) rfl (ltK rfl) rfl ?_
        refine g_iload (pc := 55) (j := 1) (dK D_Searches_tightestAd 31 rfl) rfl ?_
        refine g_istoren (pc := 57) (i0 := 2) (ls2 := [(2, V p3), (1, V a3), (4, V p3), (0, .ref c0), (3, V a3)]) (dK D_Searches_tightestAd 32 rfl) rfl (ltK rfl) rfl ?_
        refine nmE h (fun v4 e_v4 h => ?_)
        refine vg_iinc (pc := 58) (j := 4) (a := a3) (z := 1) (ls2 := [(3, V v4), (2, V p3), (1, V a3), (4, V p3), (0, .ref c0)]) (dK D_Searches_tightestAd 33 rfl) rfl e_v4 (ltK rfl) rfl ?_
        refine g_goto (pc := 61) (tgt := 6) (dK D_Searches_tightestAd 34 rfl) rfl ?_
        refine gL_weak (ls' := [(0, .ref c0), (1, V a3), (2, V p3), (3, V v4)]) (sbc 4 rfl (sbc 2 rfl (sbc 1 rfl (sbc 0 rfl sbn)))) ?_
        replace h := ih _ h
        exact h ha3 h_p3 (Vn_in e_v4)
      · replace h := ifN h hc8
        refine g_iload (pc := 47) (j := 0) (dK D_Searches_tightestAd 26 rfl) rfl ?_
        refine g_iloadn (pc := 49) (i0 := 2) (j := 3) (dK D_Searches_tightestAd 27 rfl) rfl rfl ?_
        refine vg_icmp_ge (pc := 50) (t := 58) (dK D_Searches_tightestAd 28 rfl) rfl h_p3 ha2 (fun hc7 => ?_) (fun hc7 => ?_)
        · replace h := ifP h hc7
          refine nmE h (fun v5 e_v5 h => ?_)
          refine vg_iinc (pc := 58) (j := 4) (a := a3) (z := 1) (ls2 := [(3, V v5), (4, V p3), (0, .ref c0), (1, V a1), (2, V a2)]) (dK D_Searches_tightestAd 33 rfl) rfl e_v5 (ltK rfl) rfl ?_
          refine g_goto (pc := 61) (tgt := 6) (dK D_Searches_tightestAd 34 rfl) rfl ?_
          refine gL_weak (ls' := [(0, .ref c0), (1, V a1), (2, V a2), (3, V v5)]) (sbc 2 rfl (sbc 3 rfl (sbc 4 rfl (sbc 0 rfl sbn)))) ?_
          replace h := ih _ h
          exact h ha1 ha2 (Vn_in e_v5)
        · replace h := ifN h hc7
          refine g_iloadn (pc := 53) (i0 := 3) (j := 4) (dK D_Searches_tightestAd 29 rfl) rfl rfl ?_
          refine g_istoren (pc := 54) (i0 := 1) (ls2 := [(1, V a3), (4, V p3), (0, .ref c0), (2, V a2), (3, V a3)]) (dK D_Searches_tightestAd 30 rfl) rfl (ltK rfl) rfl ?_
          refine g_iload (pc := 55) (j := 1) (dK D_Searches_tightestAd 31 rfl) rfl ?_
          refine g_istoren (pc := 57) (i0 := 2) (ls2 := [(2, V p3), (1, V a3), (4, V p3), (0, .ref c0), (3, V a3)]) (dK D_Searches_tightestAd 32 rfl) rfl (ltK rfl) rfl ?_
          refine nmE h (fun v6 e_v6 h => ?_)
          refine vg_iinc (pc := 58) (j := 4) (a := a3) (z := 1) (ls2 := [(3, V v6), (2, V p3), (1, V a3), (4, V p3), (0, .ref c0)]) (dK D_Searches_tightestAd 33 rfl) rfl e_v6 (ltK rfl) rfl ?_
          refine g_goto (pc := 61) (tgt := 6) (dK D_Searches_tightestAd 34 rfl) rfl ?_
          refine gL_weak (ls' := [(0, .ref c0), (1, V a3), (2, V p3), (3, V v6)]) (sbc 4 rfl (sbc 2 rfl (sbc 1 rfl (sbc 0 rfl sbn)))) ?_
          replace h := ih _ h
          exact h ha3 h_p3 (Vn_in e_v6)
def fn_Searches_tightestAd (c0 : Nat) (S : St) : Option (Int) := bnO (lo_Searches_tightestAd_6 c0 S FU ((-1), 0, 0)) fun p11 => some p11
theorem tf_Searches_tightestAd {E : EV} {X : XT} {c0 : Nat} (hc0 : HC X 6 c0) {S : St} {q : Int} (h : fn_Searches_tightestAd c0 S = some q) : Ev E M_Searches_tightestAd [.ref c0] (WX X S) 0 0 (KI X q S) := by
  refine Ev.of pn_Searches rfl (leK rfl) ?_
  show Go E M_Searches_tightestAd 0 0 0 [(0, .ref c0)] [] (WX X S) 0 0 (KI X q S)
  unfold fn_Searches_tightestAd at h
  refine vg_iconst (pc := 0) (dK D_Searches_tightestAd 0 rfl) ?_
  refine g_istoren (pc := 1) (i0 := 1) (ls2 := [(1, V (-1)), (0, .ref c0)]) (dK D_Searches_tightestAd 1 rfl) rfl (ltK rfl) rfl ?_
  refine vg_iconst (pc := 2) (dK D_Searches_tightestAd 2 rfl) ?_
  refine g_istoren (pc := 3) (i0 := 2) (ls2 := [(2, V 0), (1, V (-1)), (0, .ref c0)]) (dK D_Searches_tightestAd 3 rfl) rfl (ltK rfl) rfl ?_
  refine vg_iconst (pc := 4) (dK D_Searches_tightestAd 4 rfl) ?_
  refine g_istoren (pc := 5) (i0 := 3) (ls2 := [(3, V 0), (2, V 0), (1, V (-1)), (0, .ref c0)]) (dK D_Searches_tightestAd 5 rfl) rfl (ltK rfl) rfl ?_
  refine bnE h (fun p11 e_p11 h => ?_)
  refine gL_weak (ls' := [(0, .ref c0), (1, V (-1)), (2, V 0), (3, V 0)]) (sbc 3 rfl (sbc 2 rfl (sbc 1 rfl (sbc 0 rfl sbn)))) ?_
  refine tl_Searches_tightestAd_6 hc0 (fun hx1_p11 => ?_) FU ((-1), 0, 0) e_p11 (inRk rfl) (inRk rfl) (inRk rfl)
  refine g_iloadn (pc := 64) (i0 := 1) (j := 0) (dK D_Searches_tightestAd 35 rfl) rfl rfl ?_
  exact vg_iretI (pc := 65) (r := p11) (dK D_Searches_tightestAd 36 rfl) rfl (leK rfl) (leK rfl) (fun _ => rfl) (by obtain rfl := Option.some.inj h; exact ⟨rfl, hx1_p11, rfl⟩)
def fn_FP_tightest (c0 : Nat) (S : St) : Option (Int) := bnO (fn_Searches_tightestAd (tgt c0 2) S) fun p1 => some p1
theorem tf_FP_tightest {E : EV} {X : XT} {c0 : Nat} (hc0 : HC X 10 c0) {S : St} {q : Int} (h : fn_FP_tightest c0 S = some q) : Ev E M_FP_tightest [.ref c0] (WX X S) 0 0 (KI X q S) := by
  refine Ev.of pn_FP rfl (leK rfl) ?_
  show Go E M_FP_tightest 0 0 0 [(0, .ref c0)] [] (WX X S) 0 0 (KI X q S)
  unfold fn_FP_tightest at h
  refine g_aloadn (pc := 0) (i0 := 0) (j := 0) (dK D_FP_tightest 0 rfl) rfl rfl ?_
  refine vg_getO (pc := 1) (ci := 10) (f := 2) (dK D_FP_tightest 1 rfl) q_424 hc0 (ltK rfl) (ltK rfl) rfl ?_
  refine bnE h (fun p1 e_p1 h => ?_)
  refine vg_cV (pc := 4) (As := []) (rest := []) (mc' := 0) (ms' := 0) (dK D_FP_tightest 2 rfl) K_FP_292 (fitK rfl) (ltK rfl) (hw_10_2 hc0) rfl (leK rfl) (leK rfl) (leK rfl) (tf_Searches_tightestAd (hw_10_2 hc0) e_p1) (kcI (fun h_p1 => ?_))
  exact vg_iretI (pc := 7) (r := p1) (dK D_FP_tightest 3 rfl) rfl (leK rfl) (leK rfl) (fun _ => rfl) (by obtain rfl := Option.some.inj h; exact ⟨rfl, h_p1, rfl⟩)
def fn_Searches_mayMatch (c0 : Nat) (a1 : Int) (a2 : Int) (S : St) : Option (Bool) := bnO (fn_Plan_adReason (tgt c0 0) a1 a2 S) fun p1 => if p1 = 0 then (some true) else (if p1 = 6 then (some true) else (some false))
theorem tf_Searches_mayMatch {E : EV} {X : XT} {c0 : Nat} (hc0 : HC X 6 c0) {a1 : Int} (ha1 : inR a1) {a2 : Int} (ha2 : inR a2) {S : St} {q : Bool} (h : fn_Searches_mayMatch c0 a1 a2 S = some q) : Ev E M_Searches_mayMatch [.ref c0, V a1, V a2] (WX X S) 0 0 (KB X q S) := by
  refine Ev.of pn_Searches rfl (leK rfl) ?_
  show Go E M_Searches_mayMatch 0 0 0 [(0, .ref c0), (1, V a1), (2, V a2)] [] (WX X S) 0 0 (KB X q S)
  unfold fn_Searches_mayMatch at h
  refine g_aloadn (pc := 0) (i0 := 0) (j := 0) (dK D_Searches_mayMatch 0 rfl) rfl rfl ?_
  refine vg_getO (pc := 1) (ci := 6) (f := 0) (dK D_Searches_mayMatch 1 rfl) q_368 hc0 (ltK rfl) (ltK rfl) rfl ?_
  refine g_iloadn (pc := 4) (i0 := 1) (j := 1) (dK D_Searches_mayMatch 2 rfl) rfl rfl ?_
  refine g_iloadn (pc := 5) (i0 := 2) (j := 2) (dK D_Searches_mayMatch 3 rfl) rfl rfl ?_
  refine bnE h (fun p1 e_p1 h => ?_)
  refine vg_cV (pc := 6) (As := [V a1, V a2]) (rest := []) (mc' := 0) (ms' := 0) (dK D_Searches_mayMatch 4 rfl) K_Searches_105 (fitK rfl) (ltK rfl) (hw_6_0 hc0) rfl (leK rfl) (leK rfl) (leK rfl) (tf_Plan_adReason (hw_6_0 hc0) ha1 ha2 e_p1) (kcI (fun h_p1 => ?_))
  refine g_istoren (pc := 9) (i0 := 3) (ls2 := [(3, V p1), (0, .ref c0), (1, V a1), (2, V a2)]) (dK D_Searches_mayMatch 5 rfl) rfl (ltK rfl) rfl ?_
  refine g_iloadn (pc := 10) (i0 := 3) (j := 0) (dK D_Searches_mayMatch 6 rfl) rfl rfl ?_
  refine vg_if_eq (pc := 11) (t := 20) (dK D_Searches_mayMatch 7 rfl) rfl h_p1 (fun hc3 => ?_) (fun hc3 => ?_)
  · replace h := ifP h hc3
    refine vg_iconst (pc := 20) (dK D_Searches_mayMatch 11 rfl) ?_
    refine g_goto (pc := 21) (tgt := 25) (dK D_Searches_mayMatch 12 rfl) rfl ?_
    exact vg_iretB (pc := 25) (b := true) (dK D_Searches_mayMatch 14 rfl) rfl (leK rfl) (leK rfl) (fun _ => rfl) (by obtain rfl := Option.some.inj h; exact ⟨rfl, rfl⟩)
  · replace h := ifN h hc3
    refine g_iloadn (pc := 14) (i0 := 3) (j := 0) (dK D_Searches_mayMatch 8 rfl) rfl rfl ?_
    refine vg_bipush (pc := 15) (dK D_Searches_mayMatch 9 rfl) rfl ?_
    refine vg_icmp_ne (pc := 17) (t := 24) (dK D_Searches_mayMatch 10 rfl) rfl h_p1 (inRk rfl) (fun hc2 => ?_) (fun hc2 => ?_)
    · replace h := ifN h hc2
      refine vg_iconst (pc := 24) (dK D_Searches_mayMatch 13 rfl) ?_
      exact vg_iretB (pc := 25) (b := false) (dK D_Searches_mayMatch 14 rfl) rfl (leK rfl) (leK rfl) (fun _ => rfl) (by obtain rfl := Option.some.inj h; exact ⟨rfl, rfl⟩)
    · replace h := ifP h hc2
      refine vg_iconst (pc := 20) (dK D_Searches_mayMatch 11 rfl) ?_
      refine g_goto (pc := 21) (tgt := 25) (dK D_Searches_mayMatch 12 rfl) rfl ?_
      exact vg_iretB (pc := 25) (b := true) (dK D_Searches_mayMatch 14 rfl) rfl (leK rfl) (leK rfl) (fun _ => rfl) (by obtain rfl := Option.some.inj h; exact ⟨rfl, rfl⟩)
def lb_Searches_changePartners_4 (c0 : Nat) (go : Int × Int × St → Option ((St) ⊕ (St))) (a2 : Int) (a3 : Int) (S : St) : Option ((St) ⊕ (St)) := if 64 ≤ a3 then (some (.inr S)) else (if a2 = 0 then (some (.inr S)) else (if 0 ≤ a2 ∧ a2 < 65 then (if (g S (tgt c0 6) a2.toNat) = (-1) then (some (.inl S)) else (if 0 ≤ (g S (tgt c0 6) a2.toNat) ∧ (g S (tgt c0 6) a2.toNat) < 40 then (nm (u S (tgt c0 5) (((g S (tgt c0 6) a2.toNat)).toNat) a2) fun S3 => nm (u S3 (tgt c0 4) a2.toNat (g S (tgt c0 6) a2.toNat)) fun S4 => nm (wr (a3 + 1)) fun v5 => go ((g S (tgt c0 5) (((g S (tgt c0 6) a2.toNat)).toNat)), v5, S4)) else none)) else none))
def lo_Searches_changePartners_4 (c0 : Nat) : Nat → Int × Int × St → Option ((St) ⊕ (St)) := lp fun go p => lb_Searches_changePartners_4 c0 go p.1 p.2.1 p.2.2
theorem tl_Searches_changePartners_4 {E : EV} {X : XT} {c0 : Nat} (hc0 : HC X 6 c0) {K : RK → PS → Prop} {q : (St) ⊕ (St)} (hx : ∀ p, q = .inr p → Go E M_Searches_changePartners 0 0 63 [] [] (WX X p) 0 0 K) (hr : ∀ p, q = .inl p → K (.inl none) (WX X p)) : ∀ n a, lo_Searches_changePartners_4 c0 n a = some q → inR a.1 → inR a.2.1 → Go E M_Searches_changePartners 0 0 4 [(0, .ref c0), (2, V a.1), (3, V a.2.1)] [] (WX X a.2.2) 0 0 K := by
  refine lp_ind (P := fun a : Int × Int × St => inR a.1 → inR a.2.1 → Go E M_Searches_changePartners 0 0 4 [(0, .ref c0), (2, V a.1), (3, V a.2.1)] [] (WX X a.2.2) 0 0 K) (fun go ih a h => ?_)
  obtain ⟨a2, a3, S⟩ := a
  intro ha2 ha3
  show Go E M_Searches_changePartners 0 0 4 [(0, .ref c0), (2, V a2), (3, V a3)] [] (WX X S) 0 0 K
  replace h : lb_Searches_changePartners_4 c0 go a2 a3 S = some q := h
  unfold lb_Searches_changePartners_4 at h
  refine g_iloadn (pc := 4) (i0 := 3) (j := 2) (dK D_Searches_changePartners 4 rfl) rfl rfl ?_
  refine vg_bipush (pc := 5) (dK D_Searches_changePartners 5 rfl) rfl ?_
  refine vg_icmp_ge (pc := 7) (t := 63) (dK D_Searches_changePartners 6 rfl) rfl ha3 (inRk rfl) (fun hc8 => ?_) (fun hc8 => ?_)
  · replace h := ifP h hc8
    refine gL_weak (ls' := []) sbn ?_
    exact hx _ (Option.some.inj h).symm 
  · replace h := ifN h hc8
    refine g_iloadn (pc := 10) (i0 := 2) (j := 1) (dK D_Searches_changePartners 7 rfl) rfl rfl ?_
    refine vg_if_eq (pc := 11) (t := 63) (dK D_Searches_changePartners 8 rfl) rfl ha2 (fun hc7 => ?_) (fun hc7 => ?_)
    · replace h := ifP h hc7
      refine gL_weak (ls' := []) sbn ?_
      exact hx _ (Option.some.inj h).symm 
    · replace h := ifN h hc7
      refine g_aloadn (pc := 14) (i0 := 0) (j := 0) (dK D_Searches_changePartners 9 rfl) rfl rfl ?_
      refine vg_getA (pc := 15) (ci := 6) (f := 6) (dK D_Searches_changePartners 10 rfl) q_375 hc0 (ltK rfl) (ltK rfl) rfl ?_
      refine g_iloadn (pc := 18) (i0 := 2) (j := 1) (dK D_Searches_changePartners 11 rfl) rfl rfl ?_
      refine gdE h (fun hi1 h => ?_)
      refine vg_iaload (pc := 19) (j := a2.toNat) (dK D_Searches_changePartners 12 rfl) (hw_6_6 hc0) rfl hi1 rfl ?_
      refine g_istore (pc := 20) (ls2 := [(4, V (g S (tgt c0 6) a2.toNat)), (0, .ref c0), (2, V a2), (3, V a3)]) (dK D_Searches_changePartners 13 rfl) (ltK rfl) rfl ?_
      refine g_iload (pc := 22) (j := 0) (dK D_Searches_changePartners 14 rfl) rfl ?_
      refine vg_iconst (pc := 24) (dK D_Searches_changePartners 15 rfl) ?_
      refine vg_icmp_ne (pc := 25) (t := 29) (dK D_Searches_changePartners 16 rfl) rfl (g_in _ _ _) (inRk rfl) (fun hc6 => ?_) (fun hc6 => ?_)
      · replace h := ifN h hc6
        refine g_aloadn (pc := 29) (i0 := 0) (j := 1) (dK D_Searches_changePartners 18 rfl) rfl rfl ?_
        refine vg_getA (pc := 30) (ci := 6) (f := 5) (dK D_Searches_changePartners 19 rfl) q_374 hc0 (ltK rfl) (ltK rfl) rfl ?_
        refine g_iload (pc := 33) (j := 0) (dK D_Searches_changePartners 20 rfl) rfl ?_
        refine gdE h (fun hi2 h => ?_)
        refine vg_iaload (pc := 35) (j := ((g S (tgt c0 6) a2.toNat)).toNat) (dK D_Searches_changePartners 21 rfl) (hw_6_5 hc0) rfl hi2 rfl ?_
        refine g_istore (pc := 36) (ls2 := [(5, V (g S (tgt c0 5) (((g S (tgt c0 6) a2.toNat)).toNat))), (4, V (g S (tgt c0 6) a2.toNat)), (0, .ref c0), (2, V a2), (3, V a3)]) (dK D_Searches_changePartners 22 rfl) (ltK rfl) rfl ?_
        refine g_aloadn (pc := 38) (i0 := 0) (j := 2) (dK D_Searches_changePartners 23 rfl) rfl rfl ?_
        refine vg_getA (pc := 39) (ci := 6) (f := 5) (dK D_Searches_changePartners 24 rfl) q_374 hc0 (ltK rfl) (ltK rfl) rfl ?_
        refine g_iload (pc := 42) (j := 1) (dK D_Searches_changePartners 25 rfl) rfl ?_
        refine g_iloadn (pc := 44) (i0 := 2) (j := 3) (dK D_Searches_changePartners 26 rfl) rfl rfl ?_
        refine nmE h (fun S3 e_S3 h => ?_)
        refine vg_iastore (pc := 45) (z := a2) (dK D_Searches_changePartners 27 rfl) (hw_6_5 hc0) rfl hi2 rfl e_S3 ?_
        refine g_aloadn (pc := 46) (i0 := 0) (j := 2) (dK D_Searches_changePartners 28 rfl) rfl rfl ?_
        refine vg_getA (pc := 47) (ci := 6) (f := 4) (dK D_Searches_changePartners 29 rfl) q_373 hc0 (ltK rfl) (ltK rfl) rfl ?_
        refine g_iloadn (pc := 50) (i0 := 2) (j := 3) (dK D_Searches_changePartners 30 rfl) rfl rfl ?_
        refine g_iload (pc := 51) (j := 1) (dK D_Searches_changePartners 31 rfl) rfl ?_
        refine nmE h (fun S4 e_S4 h => ?_)
        refine vg_iastore (pc := 53) (z := (g S (tgt c0 6) a2.toNat)) (dK D_Searches_changePartners 32 rfl) (hw_6_4 hc0) rfl hi1 rfl e_S4 ?_
        refine g_iload (pc := 54) (j := 0) (dK D_Searches_changePartners 33 rfl) rfl ?_
        refine g_istoren (pc := 56) (i0 := 2) (ls2 := [(2, V (g S (tgt c0 5) (((g S (tgt c0 6) a2.toNat)).toNat))), (5, V (g S (tgt c0 5) (((g S (tgt c0 6) a2.toNat)).toNat))), (4, V (g S (tgt c0 6) a2.toNat)), (0, .ref c0), (3, V a3)]) (dK D_Searches_changePartners 34 rfl) rfl (ltK rfl) rfl ?_
        refine nmE h (fun v5 e_v5 h => ?_)
        refine vg_iinc (pc := 57) (j := 4) (a := a3) (z := 1) (ls2 := [(3, V v5), (2, V (g S (tgt c0 5) (((g S (tgt c0 6) a2.toNat)).toNat))), (5, V (g S (tgt c0 5) (((g S (tgt c0 6) a2.toNat)).toNat))), (4, V (g S (tgt c0 6) a2.toNat)), (0, .ref c0)]) (dK D_Searches_changePartners 35 rfl) rfl e_v5 (ltK rfl) rfl ?_
        refine g_goto (pc := 60) (tgt := 4) (dK D_Searches_changePartners 36 rfl) rfl ?_
        refine gL_weak (ls' := [(0, .ref c0), (2, V (g S (tgt c0 5) (((g S (tgt c0 6) a2.toNat)).toNat))), (3, V v5)]) (sbc 4 rfl (sbc 1 rfl (sbc 0 rfl sbn))) ?_
        replace h := ih _ h
        exact h (g_in _ _ _) (Vn_in e_v5)
      · replace h := ifP h hc6
        exact g_return (pc := 28) (dK D_Searches_changePartners 17 rfl) rfl (leK rfl) (leK rfl) (fun _ => rfl) (hr _ (Option.some.inj h).symm)
def fn_Searches_changePartners (c0 : Nat) (a1 : Int) (S : St) : Option (St) := bnS (lo_Searches_changePartners_4 c0 FU (a1, 0, S)) (fun p10 => some p10) fun p9 => some p9
theorem tf_Searches_changePartners {E : EV} {X : XT} {c0 : Nat} (hc0 : HC X 6 c0) {a1 : Int} (ha1 : inR a1) {S : St} {q : St} (h : fn_Searches_changePartners c0 a1 S = some q) : Ev E M_Searches_changePartners [.ref c0, V a1] (WX X S) 0 0 (KU X q) := by
  refine Ev.of pn_Searches rfl (leK rfl) ?_
  show Go E M_Searches_changePartners 0 0 0 [(0, .ref c0), (1, V a1)] [] (WX X S) 0 0 (KU X q)
  unfold fn_Searches_changePartners at h
  refine g_iloadn (pc := 0) (i0 := 1) (j := 1) (dK D_Searches_changePartners 0 rfl) rfl rfl ?_
  refine g_istoren (pc := 1) (i0 := 2) (ls2 := [(2, V a1), (0, .ref c0), (1, V a1)]) (dK D_Searches_changePartners 1 rfl) rfl (ltK rfl) rfl ?_
  refine vg_iconst (pc := 2) (dK D_Searches_changePartners 2 rfl) ?_
  refine g_istoren (pc := 3) (i0 := 3) (ls2 := [(3, V 0), (2, V a1), (0, .ref c0), (1, V a1)]) (dK D_Searches_changePartners 3 rfl) rfl (ltK rfl) rfl ?_
  refine bnSE h (fun p10 e_p10 h => ?_) (fun p9 e_p9 h => ?_)
  · refine gL_weak (ls' := [(0, .ref c0), (2, V a1), (3, V 0)]) (sbc 2 rfl (sbc 1 rfl (sbc 0 rfl sbn))) ?_
    refine tl_Searches_changePartners_4 hc0 (fun _ e => slr e) (fun p e => ?_) FU (a1, 0, S) e_p10 ha1 (inRk rfl)
    have e := Sum.inl.inj e
    subst e
    exact (by obtain rfl := Option.some.inj h; exact ⟨rfl, rfl⟩)
  · refine gL_weak (ls' := [(0, .ref c0), (2, V a1), (3, V 0)]) (sbc 2 rfl (sbc 1 rfl (sbc 0 rfl sbn))) ?_
    refine tl_Searches_changePartners_4 hc0 (fun p e => ?_) (fun _ e => srl e) FU (a1, 0, S) e_p9 ha1 (inRk rfl)
    have e := Sum.inr.inj e
    subst e
    exact g_return (pc := 63) (dK D_Searches_changePartners 37 rfl) rfl (leK rfl) (leK rfl) (fun _ => rfl) (by obtain rfl := Option.some.inj h; exact ⟨rfl, rfl⟩)
def lb_Searches_matchOneMore_33 (c0 : Nat) (a3 : Int) (go : Int × Int × St → Option ((Bool × St) ⊕ (Int × St))) (a2 : Int) (a4 : Int) (S : St) : Option ((Bool × St) ⊕ (Int × St)) := if (g S (tgt c0 0) 1) < a4 then (some (.inr (a2, S))) else (if 0 ≤ a4 ∧ a4 < 65 then (if (g S (tgt c0 6) a4.toNat) = (-1) then (if 0 ≤ a3 ∧ a3 < 40 then (bnO (fn_Searches_mayMatch c0 (g S (tgt c0 7) a3.toNat) a4 S) fun p6 => if p6 = true then (nm (u S (tgt c0 6) a4.toNat (g S (tgt c0 7) a3.toNat)) fun S9 => if (g S9 (tgt c0 4) a4.toNat) = (-1) then (bnO (fn_Searches_changePartners c0 a4 S9) fun p16 => some (.inl (true, p16))) else (if 40 ≤ a2 then (nm (wr (a4 + 1)) fun v10 => go (a2, v10, S9)) else (if 0 ≤ a2 ∧ a2 < 40 then (nm (u S9 (tgt c0 7) a2.toNat (g S9 (tgt c0 4) a4.toNat)) fun S12 => nm (wr (a2 + 1)) fun v13 => nm (wr (a4 + 1)) fun v14 => go (v13, v14, S12)) else none))) else (nm (wr (a4 + 1)) fun v8 => go (a2, v8, S))) else none) else (nm (wr (a4 + 1)) fun v4 => go (a2, v4, S))) else none)
def lo_Searches_matchOneMore_33 (c0 : Nat) (a3 : Int) : Nat → Int × Int × St → Option ((Bool × St) ⊕ (Int × St)) := lp fun go p => lb_Searches_matchOneMore_33 c0 a3 go p.1 p.2.1 p.2.2
theorem tl_Searches_matchOneMore_33 {E : EV} {X : XT} {c0 : Nat} (hc0 : HC X 6 c0) {a3 : Int} (ha3 : inR a3) {K : RK → PS → Prop} {q : (Bool × St) ⊕ (Int × St)} (hx : ∀ p, q = .inr p → inR p.1 → Go E M_Searches_matchOneMore 0 0 131 [(0, .ref c0), (2, V p.1), (3, V a3)] [] (WX X p.2) 0 0 K) (hr : ∀ p, q = .inl p → K (.inl (some (V (bi p.1)))) (WX X p.2)) : ∀ n a, lo_Searches_matchOneMore_33 c0 a3 n a = some q → inR a.1 → inR a.2.1 → Go E M_Searches_matchOneMore 0 0 33 [(0, .ref c0), (2, V a.1), (3, V a3), (4, V a.2.1)] [] (WX X a.2.2) 0 0 K := by
  refine lp_ind (P := fun a : Int × Int × St => inR a.1 → inR a.2.1 → Go E M_Searches_matchOneMore 0 0 33 [(0, .ref c0), (2, V a.1), (3, V a3), (4, V a.2.1)] [] (WX X a.2.2) 0 0 K) (fun go ih a h => ?_)
  obtain ⟨a2, a4, S⟩ := a
  intro ha2 ha4
  show Go E M_Searches_matchOneMore 0 0 33 [(0, .ref c0), (2, V a2), (3, V a3), (4, V a4)] [] (WX X S) 0 0 K
  replace h : lb_Searches_matchOneMore_33 c0 a3 go a2 a4 S = some q := h
  unfold lb_Searches_matchOneMore_33 at h
  refine g_iload (pc := 33) (j := 3) (dK D_Searches_matchOneMore_0 21 rfl) rfl ?_
  refine g_aloadn (pc := 35) (i0 := 0) (j := 0) (dK D_Searches_matchOneMore_0 22 rfl) rfl rfl ?_
  refine vg_getO (pc := 36) (ci := 6) (f := 0) (dK D_Searches_matchOneMore_0 23 rfl) q_368 hc0 (ltK rfl) (ltK rfl) rfl ?_
  refine vg_getI (pc := 39) (ci := 4) (f := 1) (dK D_Searches_matchOneMore_0 24 rfl) q_295 (hw_6_0 hc0) (ltK rfl) (ltK rfl) rfl ?_
  refine vg_icmp_gt (pc := 42) (t := 131) (dK D_Searches_matchOneMore_0 25 rfl) rfl ha4 (g_in _ _ _) (fun hc19 => ?_) (fun hc19 => ?_)
  · replace h := ifP h hc19
    refine gL_weak (ls' := [(0, .ref c0), (2, V a2), (3, V a3)]) (sbc 0 rfl (sbc 1 rfl (sbc 2 rfl sbn))) ?_
    exact hx _ (Option.some.inj h).symm ha2
  · replace h := ifN h hc19
    refine g_aloadn (pc := 45) (i0 := 0) (j := 0) (dK D_Searches_matchOneMore_0 26 rfl) rfl rfl ?_
    refine vg_getA (pc := 46) (ci := 6) (f := 6) (dK D_Searches_matchOneMore_0 27 rfl) q_375 hc0 (ltK rfl) (ltK rfl) rfl ?_
    refine g_iload (pc := 49) (j := 3) (dK D_Searches_matchOneMore_0 28 rfl) rfl ?_
    refine gdE h (fun hi3 h => ?_)
    refine vg_iaload (pc := 51) (j := a4.toNat) (dK D_Searches_matchOneMore_0 29 rfl) (hw_6_6 hc0) rfl hi3 rfl ?_
    refine vg_iconst (pc := 52) (dK D_Searches_matchOneMore_0 30 rfl) ?_
    refine vg_icmp_ne (pc := 53) (t := 125) (dK D_Searches_matchOneMore_0 31 rfl) rfl (g_in _ _ _) (inRk rfl) (fun hc18 => ?_) (fun hc18 => ?_)
    · replace h := ifN h hc18
      refine nmE h (fun v4 e_v4 h => ?_)
      refine vg_iinc (pc := 125) (j := 3) (a := a4) (z := 1) (ls2 := [(4, V v4), (0, .ref c0), (2, V a2), (3, V a3)]) (dK D_Searches_matchOneMore_1 21 rfl) rfl e_v4 (ltK rfl) rfl ?_
      refine g_goto (pc := 128) (tgt := 33) (dK D_Searches_matchOneMore_1 22 rfl) rfl ?_
      refine gL_weak (ls' := [(0, .ref c0), (2, V a2), (3, V a3), (4, V v4)]) (sbc 1 rfl (sbc 2 rfl (sbc 3 rfl (sbc 0 rfl sbn)))) ?_
      replace h := ih _ h
      exact h ha2 (Vn_in e_v4)
    · replace h := ifP h hc18
      refine g_aloadn (pc := 56) (i0 := 0) (j := 0) (dK D_Searches_matchOneMore_0 32 rfl) rfl rfl ?_
      refine g_aloadn (pc := 57) (i0 := 0) (j := 0) (dK D_Searches_matchOneMore_0 33 rfl) rfl rfl ?_
      refine vg_getA (pc := 58) (ci := 6) (f := 7) (dK D_Searches_matchOneMore_0 34 rfl) q_376 hc0 (ltK rfl) (ltK rfl) rfl ?_
      refine g_iloadn (pc := 61) (i0 := 3) (j := 2) (dK D_Searches_matchOneMore_0 35 rfl) rfl rfl ?_
      refine gdE h (fun hi5 h => ?_)
      refine vg_iaload (pc := 62) (j := a3.toNat) (dK D_Searches_matchOneMore_0 36 rfl) (hw_6_7 hc0) rfl hi5 rfl ?_
      refine g_iload (pc := 63) (j := 3) (dK D_Searches_matchOneMore_0 37 rfl) rfl ?_
      refine bnE h (fun p6 e_p6 h => ?_)
      refine vg_cV (pc := 65) (As := [V (g S (tgt c0 7) a3.toNat), V a4]) (rest := []) (mc' := 0) (ms' := 0) (dK D_Searches_matchOneMore_0 38 rfl) K_Searches_149 (fitK rfl) (ltK rfl) hc0 rfl (leK rfl) (leK rfl) (leK rfl) (tf_Searches_mayMatch hc0 (g_in _ _ _) ha4 e_p6) (kcB ?_)
      refine vg_ifB_eq (pc := 68) (b := p6) (t := 125) (dK D_Searches_matchOneMore_0 39 rfl) rfl (fun hc7 => ?_) (fun hc7 => ?_)
      · replace h := ifP h hc7
        refine g_aloadn (pc := 71) (i0 := 0) (j := 0) (dK D_Searches_matchOneMore_0 40 rfl) rfl rfl ?_
        refine vg_getA (pc := 72) (ci := 6) (f := 6) (dK D_Searches_matchOneMore_0 41 rfl) q_375 hc0 (ltK rfl) (ltK rfl) rfl ?_
        refine g_iload (pc := 75) (j := 3) (dK D_Searches_matchOneMore_0 42 rfl) rfl ?_
        refine g_aloadn (pc := 77) (i0 := 0) (j := 0) (dK D_Searches_matchOneMore_0 43 rfl) rfl rfl ?_
        refine vg_getA (pc := 78) (ci := 6) (f := 7) (dK D_Searches_matchOneMore_0 44 rfl) q_376 hc0 (ltK rfl) (ltK rfl) rfl ?_
        refine g_iloadn (pc := 81) (i0 := 3) (j := 2) (dK D_Searches_matchOneMore_0 45 rfl) rfl rfl ?_
        refine vg_iaload (pc := 82) (j := a3.toNat) (dK D_Searches_matchOneMore_0 46 rfl) (hw_6_7 hc0) rfl hi5 rfl ?_
        refine nmE h (fun S9 e_S9 h => ?_)
        refine vg_iastore (pc := 83) (z := (g S (tgt c0 7) a3.toNat)) (dK D_Searches_matchOneMore_0 47 rfl) (hw_6_6 hc0) rfl hi3 rfl e_S9 ?_
        refine g_aloadn (pc := 84) (i0 := 0) (j := 0) (dK D_Searches_matchOneMore_0 48 rfl) rfl rfl ?_
        refine vg_getA (pc := 85) (ci := 6) (f := 4) (dK D_Searches_matchOneMore_0 49 rfl) q_373 hc0 (ltK rfl) (ltK rfl) rfl ?_
        refine g_iload (pc := 88) (j := 3) (dK D_Searches_matchOneMore_1 0 rfl) rfl ?_
        refine vg_iaload (pc := 90) (j := a4.toNat) (dK D_Searches_matchOneMore_1 1 rfl) (hw_6_4 hc0) rfl hi3 rfl ?_
        refine vg_iconst (pc := 91) (dK D_Searches_matchOneMore_1 2 rfl) ?_
        refine vg_icmp_ne (pc := 92) (t := 103) (dK D_Searches_matchOneMore_1 3 rfl) rfl (g_in _ _ _) (inRk rfl) (fun hc17 => ?_) (fun hc17 => ?_)
        · replace h := ifN h hc17
          refine g_iloadn (pc := 103) (i0 := 2) (j := 1) (dK D_Searches_matchOneMore_1 9 rfl) rfl rfl ?_
          refine vg_bipush (pc := 104) (dK D_Searches_matchOneMore_1 10 rfl) rfl ?_
          refine vg_icmp_ge (pc := 106) (t := 125) (dK D_Searches_matchOneMore_1 11 rfl) rfl ha2 (inRk rfl) (fun hc15 => ?_) (fun hc15 => ?_)
          · replace h := ifP h hc15
            refine nmE h (fun v10 e_v10 h => ?_)
            refine vg_iinc (pc := 125) (j := 3) (a := a4) (z := 1) (ls2 := [(4, V v10), (0, .ref c0), (2, V a2), (3, V a3)]) (dK D_Searches_matchOneMore_1 21 rfl) rfl e_v10 (ltK rfl) rfl ?_
            refine g_goto (pc := 128) (tgt := 33) (dK D_Searches_matchOneMore_1 22 rfl) rfl ?_
            refine gL_weak (ls' := [(0, .ref c0), (2, V a2), (3, V a3), (4, V v10)]) (sbc 1 rfl (sbc 2 rfl (sbc 3 rfl (sbc 0 rfl sbn)))) ?_
            replace h := ih _ h
            exact h ha2 (Vn_in e_v10)
          · replace h := ifN h hc15
            refine g_aloadn (pc := 109) (i0 := 0) (j := 0) (dK D_Searches_matchOneMore_1 12 rfl) rfl rfl ?_
            refine vg_getA (pc := 110) (ci := 6) (f := 7) (dK D_Searches_matchOneMore_1 13 rfl) q_376 hc0 (ltK rfl) (ltK rfl) rfl ?_
            refine g_iloadn (pc := 113) (i0 := 2) (j := 1) (dK D_Searches_matchOneMore_1 14 rfl) rfl rfl ?_
            refine g_aloadn (pc := 114) (i0 := 0) (j := 0) (dK D_Searches_matchOneMore_1 15 rfl) rfl rfl ?_
            refine vg_getA (pc := 115) (ci := 6) (f := 4) (dK D_Searches_matchOneMore_1 16 rfl) q_373 hc0 (ltK rfl) (ltK rfl) rfl ?_
            refine g_iload (pc := 118) (j := 3) (dK D_Searches_matchOneMore_1 17 rfl) rfl ?_
            refine vg_iaload (pc := 120) (j := a4.toNat) (dK D_Searches_matchOneMore_1 18 rfl) (hw_6_4 hc0) rfl hi3 rfl ?_
            refine gdE h (fun hi11 h => ?_)
            refine nmE h (fun S12 e_S12 h => ?_)
            refine vg_iastore (pc := 121) (z := (g S9 (tgt c0 4) a4.toNat)) (dK D_Searches_matchOneMore_1 19 rfl) (hw_6_7 hc0) rfl hi11 rfl e_S12 ?_
            refine nmE h (fun v13 e_v13 h => ?_)
            refine vg_iinc (pc := 122) (j := 1) (a := a2) (z := 1) (ls2 := [(2, V v13), (0, .ref c0), (3, V a3), (4, V a4)]) (dK D_Searches_matchOneMore_1 20 rfl) rfl e_v13 (ltK rfl) rfl ?_
            refine nmE h (fun v14 e_v14 h => ?_)
            refine vg_iinc (pc := 125) (j := 3) (a := a4) (z := 1) (ls2 := [(4, V v14), (2, V v13), (0, .ref c0), (3, V a3)]) (dK D_Searches_matchOneMore_1 21 rfl) rfl e_v14 (ltK rfl) rfl ?_
            refine g_goto (pc := 128) (tgt := 33) (dK D_Searches_matchOneMore_1 22 rfl) rfl ?_
            refine gL_weak (ls' := [(0, .ref c0), (2, V v13), (3, V a3), (4, V v14)]) (sbc 2 rfl (sbc 1 rfl (sbc 3 rfl (sbc 0 rfl sbn)))) ?_
            replace h := ih _ h
            exact h (Vn_in e_v13) (Vn_in e_v14)
        · replace h := ifP h hc17
          refine g_aloadn (pc := 95) (i0 := 0) (j := 0) (dK D_Searches_matchOneMore_1 4 rfl) rfl rfl ?_
          refine g_iload (pc := 96) (j := 3) (dK D_Searches_matchOneMore_1 5 rfl) rfl ?_
          refine bnE h (fun p16 e_p16 h => ?_)
          refine vg_cV (pc := 98) (As := [V a4]) (rest := []) (mc' := 0) (ms' := 0) (dK D_Searches_matchOneMore_1 6 rfl) K_Searches_152 (fitK rfl) (ltK rfl) hc0 rfl (leK rfl) (leK rfl) (leK rfl) (tf_Searches_changePartners hc0 ha4 e_p16) (kcU ?_)
          refine vg_iconst (pc := 101) (dK D_Searches_matchOneMore_1 7 rfl) ?_
          exact vg_iretB (pc := 102) (b := true) (dK D_Searches_matchOneMore_1 8 rfl) rfl (leK rfl) (leK rfl) (fun _ => rfl) (hr _ (Option.some.inj h).symm)
      · replace h := ifN h hc7
        refine nmE h (fun v8 e_v8 h => ?_)
        refine vg_iinc (pc := 125) (j := 3) (a := a4) (z := 1) (ls2 := [(4, V v8), (0, .ref c0), (2, V a2), (3, V a3)]) (dK D_Searches_matchOneMore_1 21 rfl) rfl e_v8 (ltK rfl) rfl ?_
        refine g_goto (pc := 128) (tgt := 33) (dK D_Searches_matchOneMore_1 22 rfl) rfl ?_
        refine gL_weak (ls' := [(0, .ref c0), (2, V a2), (3, V a3), (4, V v8)]) (sbc 1 rfl (sbc 2 rfl (sbc 3 rfl (sbc 0 rfl sbn)))) ?_
        replace h := ih _ h
        exact h ha2 (Vn_in e_v8)
def lb_Searches_matchOneMore_19 (c0 : Nat) (go : Int × Int × St → Option ((Bool × St) ⊕ (St))) (a2 : Int) (a3 : Int) (S : St) : Option ((Bool × St) ⊕ (St)) := if a2 ≤ a3 then (some (.inr S)) else (if 40 ≤ a3 then (some (.inr S)) else (bnS (lo_Searches_matchOneMore_33 c0 a3 FU (a2, 1, S)) (fun p22 => some (.inl (p22.1, p22.2))) fun p20 => nm (wr (a3 + 1)) fun v21 => go (p20.1, v21, p20.2)))
def lo_Searches_matchOneMore_19 (c0 : Nat) : Nat → Int × Int × St → Option ((Bool × St) ⊕ (St)) := lp fun go p => lb_Searches_matchOneMore_19 c0 go p.1 p.2.1 p.2.2
theorem tl_Searches_matchOneMore_19 {E : EV} {X : XT} {c0 : Nat} (hc0 : HC X 6 c0) {K : RK → PS → Prop} {q : (Bool × St) ⊕ (St)} (hx : ∀ p, q = .inr p → Go E M_Searches_matchOneMore 0 0 137 [] [] (WX X p) 0 0 K) (hr : ∀ p, q = .inl p → K (.inl (some (V (bi p.1)))) (WX X p.2)) : ∀ n a, lo_Searches_matchOneMore_19 c0 n a = some q → inR a.1 → inR a.2.1 → Go E M_Searches_matchOneMore 0 0 19 [(0, .ref c0), (2, V a.1), (3, V a.2.1)] [] (WX X a.2.2) 0 0 K := by
  refine lp_ind (P := fun a : Int × Int × St => inR a.1 → inR a.2.1 → Go E M_Searches_matchOneMore 0 0 19 [(0, .ref c0), (2, V a.1), (3, V a.2.1)] [] (WX X a.2.2) 0 0 K) (fun go ih a h => ?_)
  obtain ⟨a2, a3, S⟩ := a
  intro ha2 ha3
  show Go E M_Searches_matchOneMore 0 0 19 [(0, .ref c0), (2, V a2), (3, V a3)] [] (WX X S) 0 0 K
  replace h : lb_Searches_matchOneMore_19 c0 go a2 a3 S = some q := h
  unfold lb_Searches_matchOneMore_19 at h
  refine g_iloadn (pc := 19) (i0 := 3) (j := 2) (dK D_Searches_matchOneMore_0 13 rfl) rfl rfl ?_
  refine g_iloadn (pc := 20) (i0 := 2) (j := 1) (dK D_Searches_matchOneMore_0 14 rfl) rfl rfl ?_
  refine vg_icmp_ge (pc := 21) (t := 137) (dK D_Searches_matchOneMore_0 15 rfl) rfl ha3 ha2 (fun hc24 => ?_) (fun hc24 => ?_)
  · replace h := ifP h hc24
    refine gL_weak (ls' := []) sbn ?_
    exact hx _ (Option.some.inj h).symm 
  · replace h := ifN h hc24
    refine g_iloadn (pc := 24) (i0 := 3) (j := 2) (dK D_Searches_matchOneMore_0 16 rfl) rfl rfl ?_
    refine vg_bipush (pc := 25) (dK D_Searches_matchOneMore_0 17 rfl) rfl ?_
    refine vg_icmp_ge (pc := 27) (t := 137) (dK D_Searches_matchOneMore_0 18 rfl) rfl ha3 (inRk rfl) (fun hc23 => ?_) (fun hc23 => ?_)
    · replace h := ifP h hc23
      refine gL_weak (ls' := []) sbn ?_
      exact hx _ (Option.some.inj h).symm 
    · replace h := ifN h hc23
      refine vg_iconst (pc := 30) (dK D_Searches_matchOneMore_0 19 rfl) ?_
      refine g_istore (pc := 31) (ls2 := [(4, V 1), (0, .ref c0), (2, V a2), (3, V a3)]) (dK D_Searches_matchOneMore_0 20 rfl) (ltK rfl) rfl ?_
      refine bnSE h (fun p22 e_p22 h => ?_) (fun p20 e_p20 h => ?_)
      · refine gL_weak (ls' := [(0, .ref c0), (2, V a2), (3, V a3), (4, V 1)]) (sbc 1 rfl (sbc 2 rfl (sbc 3 rfl (sbc 0 rfl sbn)))) ?_
        refine tl_Searches_matchOneMore_33 hc0 ha3 (fun _ e => slr e) (fun p e => ?_) FU (a2, 1, S) e_p22 ha2 (inRk rfl)
        have e := Sum.inl.inj e
        subst e
        exact (hr _ (Option.some.inj h).symm)
      · refine gL_weak (ls' := [(0, .ref c0), (2, V a2), (3, V a3), (4, V 1)]) (sbc 1 rfl (sbc 2 rfl (sbc 3 rfl (sbc 0 rfl sbn)))) ?_
        refine tl_Searches_matchOneMore_33 hc0 ha3 (fun p e hx2_p20 => ?_) (fun _ e => srl e) FU (a2, 1, S) e_p20 ha2 (inRk rfl)
        have e := Sum.inr.inj e
        subst e
        refine nmE h (fun v21 e_v21 h => ?_)
        refine vg_iinc (pc := 131) (j := 2) (a := a3) (z := 1) (ls2 := [(3, V v21), (0, .ref c0), (2, V p20.1)]) (dK D_Searches_matchOneMore_1 23 rfl) rfl e_v21 (ltK rfl) rfl ?_
        refine g_goto (pc := 134) (tgt := 19) (dK D_Searches_matchOneMore_1 24 rfl) rfl ?_
        refine gL_weak (ls' := [(0, .ref c0), (2, V p20.1), (3, V v21)]) (sbc 1 rfl (sbc 2 rfl (sbc 0 rfl sbn))) ?_
        replace h := ih _ h
        exact h hx2_p20 (Vn_in e_v21)
def fn_Searches_matchOneMore (c0 : Nat) (a1 : Int) (S : St) : Option (Bool × St) := bnO (fn_Arrays_fill 65 (tgt c0 6) (-1) S) fun p1 => nm (u p1 (tgt c0 7) 0 a1) fun S2 => bnS (lo_Searches_matchOneMore_19 c0 FU (1, 0, S2)) (fun p26 => some (p26.1, p26.2)) fun p25 => some (false, p25)
theorem tf_Searches_matchOneMore {E : EV} {X : XT} {c0 : Nat} (hc0 : HC X 6 c0) {a1 : Int} (ha1 : inR a1) {S : St} {q : Bool × St} (h : fn_Searches_matchOneMore c0 a1 S = some q) : Ev E M_Searches_matchOneMore [.ref c0, V a1] (WX X S) 0 0 (KB X q.1 q.2) := by
  refine Ev.of pn_Searches rfl (leK rfl) ?_
  show Go E M_Searches_matchOneMore 0 0 0 [(0, .ref c0), (1, V a1)] [] (WX X S) 0 0 (KB X q.1 q.2)
  unfold fn_Searches_matchOneMore at h
  refine g_aloadn (pc := 0) (i0 := 0) (j := 0) (dK D_Searches_matchOneMore_0 0 rfl) rfl rfl ?_
  refine vg_getA (pc := 1) (ci := 6) (f := 6) (dK D_Searches_matchOneMore_0 1 rfl) q_375 hc0 (ltK rfl) (ltK rfl) rfl ?_
  refine vg_iconst (pc := 4) (dK D_Searches_matchOneMore_0 2 rfl) ?_
  refine bnE h (fun p1 e_p1 h => ?_)
  refine vg_cS (pc := 5) (As := [.ref (tgt c0 6), V (-1)]) (rest := []) (mc' := 0) (ms' := 0) (dK D_Searches_matchOneMore_0 3 rfl) K_Searches_140 (fitK rfl) rfl (leK rfl) (leK rfl) (leK rfl) (tf_Arrays_fill rfl (hw_6_6 hc0) (inRk rfl) e_p1) (kcU ?_)
  refine g_aloadn (pc := 8) (i0 := 0) (j := 0) (dK D_Searches_matchOneMore_0 4 rfl) rfl rfl ?_
  refine vg_getA (pc := 9) (ci := 6) (f := 7) (dK D_Searches_matchOneMore_0 5 rfl) q_376 hc0 (ltK rfl) (ltK rfl) rfl ?_
  refine vg_iconst (pc := 12) (dK D_Searches_matchOneMore_0 6 rfl) ?_
  refine g_iloadn (pc := 13) (i0 := 1) (j := 1) (dK D_Searches_matchOneMore_0 7 rfl) rfl rfl ?_
  refine nmE h (fun S2 e_S2 h => ?_)
  refine vg_iastore (pc := 14) (z := a1) (dK D_Searches_matchOneMore_0 8 rfl) (hw_6_7 hc0) rfl ⟨by decide, by decide⟩ rfl e_S2 ?_
  refine vg_iconst (pc := 15) (dK D_Searches_matchOneMore_0 9 rfl) ?_
  refine g_istoren (pc := 16) (i0 := 2) (ls2 := [(2, V 1), (0, .ref c0), (1, V a1)]) (dK D_Searches_matchOneMore_0 10 rfl) rfl (ltK rfl) rfl ?_
  refine vg_iconst (pc := 17) (dK D_Searches_matchOneMore_0 11 rfl) ?_
  refine g_istoren (pc := 18) (i0 := 3) (ls2 := [(3, V 0), (2, V 1), (0, .ref c0), (1, V a1)]) (dK D_Searches_matchOneMore_0 12 rfl) rfl (ltK rfl) rfl ?_
  refine bnSE h (fun p26 e_p26 h => ?_) (fun p25 e_p25 h => ?_)
  · refine gL_weak (ls' := [(0, .ref c0), (2, V 1), (3, V 0)]) (sbc 2 rfl (sbc 1 rfl (sbc 0 rfl sbn))) ?_
    refine tl_Searches_matchOneMore_19 hc0 (fun _ e => slr e) (fun p e => ?_) FU (1, 0, S2) e_p26 (inRk rfl) (inRk rfl)
    have e := Sum.inl.inj e
    subst e
    exact (by obtain rfl := Option.some.inj h; exact ⟨rfl, rfl⟩)
  · refine gL_weak (ls' := [(0, .ref c0), (2, V 1), (3, V 0)]) (sbc 2 rfl (sbc 1 rfl (sbc 0 rfl sbn))) ?_
    refine tl_Searches_matchOneMore_19 hc0 (fun p e => ?_) (fun _ e => srl e) FU (1, 0, S2) e_p25 (inRk rfl) (inRk rfl)
    have e := Sum.inr.inj e
    subst e
    refine vg_iconst (pc := 137) (dK D_Searches_matchOneMore_1 25 rfl) ?_
    exact vg_iretB (pc := 138) (b := false) (dK D_Searches_matchOneMore_1 26 rfl) rfl (leK rfl) (leK rfl) (fun _ => rfl) (by obtain rfl := Option.some.inj h; exact ⟨rfl, rfl⟩)
def lb_Searches_matchedAds_20 (c0 : Nat) (go : Int × Int × St → Option (Int × St)) (a1 : Int) (a2 : Int) (S : St) : Option (Int × St) := if (g S (tgt (tgt c0 1) 0) 7) ≤ a2 then (some (a1, S)) else (if 0 ≤ a2 ∧ a2 < 40 then (if (g S (tgt (tgt (tgt c0 1) 0) 0) a2.toNat) = 4 then (if (g S (tgt (tgt (tgt c0 1) 0) 6) a2.toNat) = 0 then (bnO (fn_Searches_matchOneMore c0 a2 S) fun p6 => if p6.1 = true then (nm (wr (a1 + 1)) fun v9 => nm (wr (a2 + 1)) fun v10 => go (v9, v10, p6.2)) else (nm (wr (a2 + 1)) fun v8 => go (a1, v8, p6.2))) else (nm (wr (a2 + 1)) fun v5 => go (a1, v5, S))) else (nm (wr (a2 + 1)) fun v4 => go (a1, v4, S))) else none)
def lo_Searches_matchedAds_20 (c0 : Nat) : Nat → Int × Int × St → Option (Int × St) := lp fun go p => lb_Searches_matchedAds_20 c0 go p.1 p.2.1 p.2.2
theorem tl_Searches_matchedAds_20 {E : EV} {X : XT} {c0 : Nat} (hc0 : HC X 6 c0) {K : RK → PS → Prop} {q : Int × St} (hx : inR q.1 → Go E M_Searches_matchedAds 0 0 82 [(1, V q.1)] [] (WX X q.2) 0 0 K) : ∀ n a, lo_Searches_matchedAds_20 c0 n a = some q → inR a.1 → inR a.2.1 → Go E M_Searches_matchedAds 0 0 20 [(0, .ref c0), (1, V a.1), (2, V a.2.1)] [] (WX X a.2.2) 0 0 K := by
  refine lp_ind (P := fun a : Int × Int × St => inR a.1 → inR a.2.1 → Go E M_Searches_matchedAds 0 0 20 [(0, .ref c0), (1, V a.1), (2, V a.2.1)] [] (WX X a.2.2) 0 0 K) (fun go ih a h => ?_)
  obtain ⟨a1, a2, S⟩ := a
  intro ha1 ha2
  show Go E M_Searches_matchedAds 0 0 20 [(0, .ref c0), (1, V a1), (2, V a2)] [] (WX X S) 0 0 K
  replace h : lb_Searches_matchedAds_20 c0 go a1 a2 S = some q := h
  unfold lb_Searches_matchedAds_20 at h
  refine g_iloadn (pc := 20) (i0 := 2) (j := 2) (dK D_Searches_matchedAds 12 rfl) rfl rfl ?_
  refine g_aloadn (pc := 21) (i0 := 0) (j := 0) (dK D_Searches_matchedAds 13 rfl) rfl rfl ?_
  refine vg_getO (pc := 22) (ci := 6) (f := 1) (dK D_Searches_matchedAds 14 rfl) q_370 hc0 (ltK rfl) (ltK rfl) rfl ?_
  refine vg_getO (pc := 25) (ci := 8) (f := 0) (dK D_Searches_matchedAds 15 rfl) q_221 (hw_6_1 hc0) (ltK rfl) (ltK rfl) rfl ?_
  refine vg_getI (pc := 28) (ci := 0) (f := 7) (dK D_Searches_matchedAds 16 rfl) q_106 (hw_8_0 (hw_6_1 hc0)) (ltK rfl) (ltK rfl) rfl ?_
  refine vg_icmp_ge (pc := 31) (t := 82) (dK D_Searches_matchedAds 17 rfl) rfl ha2 (g_in _ _ _) (fun hc13 => ?_) (fun hc13 => ?_)
  · replace h := ifP h hc13
    obtain rfl := Option.some.inj h
    refine gL_weak (ls' := [(1, V a1)]) (sbc 1 rfl sbn) ?_
    exact hx ha1
  · replace h := ifN h hc13
    refine g_aloadn (pc := 34) (i0 := 0) (j := 0) (dK D_Searches_matchedAds 18 rfl) rfl rfl ?_
    refine vg_getO (pc := 35) (ci := 6) (f := 1) (dK D_Searches_matchedAds 19 rfl) q_370 hc0 (ltK rfl) (ltK rfl) rfl ?_
    refine vg_getO (pc := 38) (ci := 8) (f := 0) (dK D_Searches_matchedAds 20 rfl) q_221 (hw_6_1 hc0) (ltK rfl) (ltK rfl) rfl ?_
    refine vg_getA (pc := 41) (ci := 0) (f := 0) (dK D_Searches_matchedAds 21 rfl) q_77 (hw_8_0 (hw_6_1 hc0)) (ltK rfl) (ltK rfl) rfl ?_
    refine g_iloadn (pc := 44) (i0 := 2) (j := 2) (dK D_Searches_matchedAds 22 rfl) rfl rfl ?_
    refine gdE h (fun hi3 h => ?_)
    refine vg_iaload (pc := 45) (j := a2.toNat) (dK D_Searches_matchedAds 23 rfl) (hw_0_0 (hw_8_0 (hw_6_1 hc0))) rfl hi3 rfl ?_
    refine vg_iconst (pc := 46) (dK D_Searches_matchedAds 24 rfl) ?_
    refine vg_icmp_ne (pc := 47) (t := 76) (dK D_Searches_matchedAds 25 rfl) rfl (g_in _ _ _) (inRk rfl) (fun hc12 => ?_) (fun hc12 => ?_)
    · replace h := ifN h hc12
      refine nmE h (fun v4 e_v4 h => ?_)
      refine vg_iinc (pc := 76) (j := 2) (a := a2) (z := 1) (ls2 := [(2, V v4), (0, .ref c0), (1, V a1)]) (dK D_Searches_matchedAds 38 rfl) rfl e_v4 (ltK rfl) rfl ?_
      refine g_goto (pc := 79) (tgt := 20) (dK D_Searches_matchedAds 39 rfl) rfl ?_
      refine gL_weak (ls' := [(0, .ref c0), (1, V a1), (2, V v4)]) (sbc 1 rfl (sbc 2 rfl (sbc 0 rfl sbn))) ?_
      replace h := ih _ h
      exact h ha1 (Vn_in e_v4)
    · replace h := ifP h hc12
      refine g_aloadn (pc := 50) (i0 := 0) (j := 0) (dK D_Searches_matchedAds 26 rfl) rfl rfl ?_
      refine vg_getO (pc := 51) (ci := 6) (f := 1) (dK D_Searches_matchedAds 27 rfl) q_370 hc0 (ltK rfl) (ltK rfl) rfl ?_
      refine vg_getO (pc := 54) (ci := 8) (f := 0) (dK D_Searches_matchedAds 28 rfl) q_221 (hw_6_1 hc0) (ltK rfl) (ltK rfl) rfl ?_
      refine vg_getA (pc := 57) (ci := 0) (f := 6) (dK D_Searches_matchedAds 29 rfl) q_101 (hw_8_0 (hw_6_1 hc0)) (ltK rfl) (ltK rfl) rfl ?_
      refine g_iloadn (pc := 60) (i0 := 2) (j := 2) (dK D_Searches_matchedAds 30 rfl) rfl rfl ?_
      refine vg_iaload (pc := 61) (j := a2.toNat) (dK D_Searches_matchedAds 31 rfl) (hw_0_6 (hw_8_0 (hw_6_1 hc0))) rfl hi3 rfl ?_
      refine vg_if_ne (pc := 62) (t := 76) (dK D_Searches_matchedAds 32 rfl) rfl (g_in _ _ _) (fun hc11 => ?_) (fun hc11 => ?_)
      · replace h := ifN h hc11
        refine nmE h (fun v5 e_v5 h => ?_)
        refine vg_iinc (pc := 76) (j := 2) (a := a2) (z := 1) (ls2 := [(2, V v5), (0, .ref c0), (1, V a1)]) (dK D_Searches_matchedAds 38 rfl) rfl e_v5 (ltK rfl) rfl ?_
        refine g_goto (pc := 79) (tgt := 20) (dK D_Searches_matchedAds 39 rfl) rfl ?_
        refine gL_weak (ls' := [(0, .ref c0), (1, V a1), (2, V v5)]) (sbc 1 rfl (sbc 2 rfl (sbc 0 rfl sbn))) ?_
        replace h := ih _ h
        exact h ha1 (Vn_in e_v5)
      · replace h := ifP h hc11
        refine g_aloadn (pc := 65) (i0 := 0) (j := 0) (dK D_Searches_matchedAds 33 rfl) rfl rfl ?_
        refine g_iloadn (pc := 66) (i0 := 2) (j := 2) (dK D_Searches_matchedAds 34 rfl) rfl rfl ?_
        refine bnE h (fun p6 e_p6 h => ?_)
        refine vg_cV (pc := 67) (As := [V a2]) (rest := []) (mc' := 0) (ms' := 0) (dK D_Searches_matchedAds 35 rfl) K_Searches_146 (fitK rfl) (ltK rfl) hc0 rfl (leK rfl) (leK rfl) (leK rfl) (tf_Searches_matchOneMore hc0 ha2 e_p6) (kcB ?_)
        refine vg_ifB_eq (pc := 70) (b := p6.1) (t := 76) (dK D_Searches_matchedAds 36 rfl) rfl (fun hc7 => ?_) (fun hc7 => ?_)
        · replace h := ifP h hc7
          refine nmE h (fun v9 e_v9 h => ?_)
          refine vg_iinc (pc := 73) (j := 1) (a := a1) (z := 1) (ls2 := [(1, V v9), (0, .ref c0), (2, V a2)]) (dK D_Searches_matchedAds 37 rfl) rfl e_v9 (ltK rfl) rfl ?_
          refine nmE h (fun v10 e_v10 h => ?_)
          refine vg_iinc (pc := 76) (j := 2) (a := a2) (z := 1) (ls2 := [(2, V v10), (1, V v9), (0, .ref c0)]) (dK D_Searches_matchedAds 38 rfl) rfl e_v10 (ltK rfl) rfl ?_
          refine g_goto (pc := 79) (tgt := 20) (dK D_Searches_matchedAds 39 rfl) rfl ?_
          refine gL_weak (ls' := [(0, .ref c0), (1, V v9), (2, V v10)]) (sbc 2 rfl (sbc 1 rfl (sbc 0 rfl sbn))) ?_
          replace h := ih _ h
          exact h (Vn_in e_v9) (Vn_in e_v10)
        · replace h := ifN h hc7
          refine nmE h (fun v8 e_v8 h => ?_)
          refine vg_iinc (pc := 76) (j := 2) (a := a2) (z := 1) (ls2 := [(2, V v8), (0, .ref c0), (1, V a1)]) (dK D_Searches_matchedAds 38 rfl) rfl e_v8 (ltK rfl) rfl ?_
          refine g_goto (pc := 79) (tgt := 20) (dK D_Searches_matchedAds 39 rfl) rfl ?_
          refine gL_weak (ls' := [(0, .ref c0), (1, V a1), (2, V v8)]) (sbc 1 rfl (sbc 2 rfl (sbc 0 rfl sbn))) ?_
          replace h := ih _ h
          exact h ha1 (Vn_in e_v8)
def fn_Searches_matchedAds (c0 : Nat) (S : St) : Option (Int × St) := bnO (fn_Arrays_fill 65 (tgt c0 4) (-1) S) fun p1 => bnO (fn_Arrays_fill 40 (tgt c0 5) 0 p1) fun p2 => bnO (lo_Searches_matchedAds_20 c0 FU (0, 0, p2)) fun p14 => some (p14.1, p14.2)
theorem tf_Searches_matchedAds {E : EV} {X : XT} {c0 : Nat} (hc0 : HC X 6 c0) {S : St} {q : Int × St} (h : fn_Searches_matchedAds c0 S = some q) : Ev E M_Searches_matchedAds [.ref c0] (WX X S) 0 0 (KI X q.1 q.2) := by
  refine Ev.of pn_Searches rfl (leK rfl) ?_
  show Go E M_Searches_matchedAds 0 0 0 [(0, .ref c0)] [] (WX X S) 0 0 (KI X q.1 q.2)
  unfold fn_Searches_matchedAds at h
  refine g_aloadn (pc := 0) (i0 := 0) (j := 0) (dK D_Searches_matchedAds 0 rfl) rfl rfl ?_
  refine vg_getA (pc := 1) (ci := 6) (f := 4) (dK D_Searches_matchedAds 1 rfl) q_373 hc0 (ltK rfl) (ltK rfl) rfl ?_
  refine vg_iconst (pc := 4) (dK D_Searches_matchedAds 2 rfl) ?_
  refine bnE h (fun p1 e_p1 h => ?_)
  refine vg_cS (pc := 5) (As := [.ref (tgt c0 4), V (-1)]) (rest := []) (mc' := 0) (ms' := 0) (dK D_Searches_matchedAds 3 rfl) K_Searches_140 (fitK rfl) rfl (leK rfl) (leK rfl) (leK rfl) (tf_Arrays_fill rfl (hw_6_4 hc0) (inRk rfl) e_p1) (kcU ?_)
  refine g_aloadn (pc := 8) (i0 := 0) (j := 0) (dK D_Searches_matchedAds 4 rfl) rfl rfl ?_
  refine vg_getA (pc := 9) (ci := 6) (f := 5) (dK D_Searches_matchedAds 5 rfl) q_374 hc0 (ltK rfl) (ltK rfl) rfl ?_
  refine vg_iconst (pc := 12) (dK D_Searches_matchedAds 6 rfl) ?_
  refine bnE h (fun p2 e_p2 h => ?_)
  refine vg_cS (pc := 13) (As := [.ref (tgt c0 5), V 0]) (rest := []) (mc' := 0) (ms' := 0) (dK D_Searches_matchedAds 7 rfl) K_Searches_140 (fitK rfl) rfl (leK rfl) (leK rfl) (leK rfl) (tf_Arrays_fill rfl (hw_6_5 hc0) (inRk rfl) e_p2) (kcU ?_)
  refine vg_iconst (pc := 16) (dK D_Searches_matchedAds 8 rfl) ?_
  refine g_istoren (pc := 17) (i0 := 1) (ls2 := [(1, V 0), (0, .ref c0)]) (dK D_Searches_matchedAds 9 rfl) rfl (ltK rfl) rfl ?_
  refine vg_iconst (pc := 18) (dK D_Searches_matchedAds 10 rfl) ?_
  refine g_istoren (pc := 19) (i0 := 2) (ls2 := [(2, V 0), (1, V 0), (0, .ref c0)]) (dK D_Searches_matchedAds 11 rfl) rfl (ltK rfl) rfl ?_
  refine bnE h (fun p14 e_p14 h => ?_)
  refine gL_weak (ls' := [(0, .ref c0), (1, V 0), (2, V 0)]) (sbc 2 rfl (sbc 1 rfl (sbc 0 rfl sbn))) ?_
  refine tl_Searches_matchedAds_20 hc0 (fun hx1_p14 => ?_) FU (0, 0, p2) e_p14 (inRk rfl) (inRk rfl)
  refine g_iloadn (pc := 82) (i0 := 1) (j := 0) (dK D_Searches_matchedAds 40 rfl) rfl rfl ?_
  exact vg_iretI (pc := 83) (r := p14.1) (dK D_Searches_matchedAds 41 rfl) rfl (leK rfl) (leK rfl) (fun _ => rfl) (by obtain rfl := Option.some.inj h; exact ⟨rfl, hx1_p14, rfl⟩)
def fn_FP_matching (c0 : Nat) (S : St) : Option (Int × St) := bnO (fn_Searches_matchedAds (tgt c0 2) S) fun p1 => some (p1.1, p1.2)
theorem tf_FP_matching {E : EV} {X : XT} {c0 : Nat} (hc0 : HC X 10 c0) {S : St} {q : Int × St} (h : fn_FP_matching c0 S = some q) : Ev E M_FP_matching [.ref c0] (WX X S) 0 0 (KI X q.1 q.2) := by
  refine Ev.of pn_FP rfl (leK rfl) ?_
  show Go E M_FP_matching 0 0 0 [(0, .ref c0)] [] (WX X S) 0 0 (KI X q.1 q.2)
  unfold fn_FP_matching at h
  refine g_aloadn (pc := 0) (i0 := 0) (j := 0) (dK D_FP_matching 0 rfl) rfl rfl ?_
  refine vg_getO (pc := 1) (ci := 10) (f := 2) (dK D_FP_matching 1 rfl) q_424 hc0 (ltK rfl) (ltK rfl) rfl ?_
  refine bnE h (fun p1 e_p1 h => ?_)
  refine vg_cV (pc := 4) (As := []) (rest := []) (mc' := 0) (ms' := 0) (dK D_FP_matching 2 rfl) K_FP_301 (fitK rfl) (ltK rfl) (hw_10_2 hc0) rfl (leK rfl) (leK rfl) (leK rfl) (tf_Searches_matchedAds (hw_10_2 hc0) e_p1) (kcI (fun h_p1 => ?_))
  exact vg_iretI (pc := 7) (r := p1.1) (dK D_FP_matching 3 rfl) rfl (leK rfl) (leK rfl) (fun _ => rfl) (by obtain rfl := Option.some.inj h; exact ⟨rfl, h_p1, rfl⟩)
def lb_Searches_countColorPages_18 (c0 : Nat) (go : Int × St → Option (St)) (a1 : Int) (S : St) : Option (St) := if (g S (tgt (tgt c0 1) 0) 7) ≤ a1 then (some S) else (if 0 ≤ a1 ∧ a1 < 40 then (bnO (fn_Plan_hasPage (tgt c0 0) (g S (tgt (tgt (tgt c0 1) 0) 6) a1.toNat) S) fun p4 => if p4 = true then (if (g S (tgt (tgt (tgt c0 1) 0) 2) a1.toNat) = 1 then (if 0 ≤ (g S (tgt (tgt (tgt c0 1) 0) 6) a1.toNat) ∧ (g S (tgt (tgt (tgt c0 1) 0) 6) a1.toNat) < 65 then (nm (u S (tgt c0 9) (((g S (tgt (tgt (tgt c0 1) 0) 6) a1.toNat)).toNat) 1) fun S9 => nm (wr (a1 + 1)) fun v10 => go (v10, S9)) else none) else (nm (wr (a1 + 1)) fun v7 => go (v7, S))) else (nm (wr (a1 + 1)) fun v6 => go (v6, S))) else none)
def lo_Searches_countColorPages_18 (c0 : Nat) : Nat → Int × St → Option (St) := lp fun go p => lb_Searches_countColorPages_18 c0 go p.1 p.2
theorem tl_Searches_countColorPages_18 {E : EV} {X : XT} {c0 : Nat} (hc0 : HC X 6 c0) {K : RK → PS → Prop} {q : St} (hx : Go E M_Searches_countColorPages 0 0 94 [(0, .ref c0)] [] (WX X q) 0 0 K) : ∀ n a, lo_Searches_countColorPages_18 c0 n a = some q → inR a.1 → Go E M_Searches_countColorPages 0 0 18 [(0, .ref c0), (1, V a.1)] [] (WX X a.2) 0 0 K := by
  refine lp_ind (P := fun a : Int × St => inR a.1 → Go E M_Searches_countColorPages 0 0 18 [(0, .ref c0), (1, V a.1)] [] (WX X a.2) 0 0 K) (fun go ih a h => ?_)
  obtain ⟨a1, S⟩ := a
  intro ha1
  show Go E M_Searches_countColorPages 0 0 18 [(0, .ref c0), (1, V a1)] [] (WX X S) 0 0 K
  replace h : lb_Searches_countColorPages_18 c0 go a1 S = some q := h
  unfold lb_Searches_countColorPages_18 at h
  refine g_iloadn (pc := 18) (i0 := 1) (j := 1) (dK D_Searches_countColorPages_0 10 rfl) rfl rfl ?_
  refine g_aloadn (pc := 19) (i0 := 0) (j := 0) (dK D_Searches_countColorPages_0 11 rfl) rfl rfl ?_
  refine vg_getO (pc := 20) (ci := 6) (f := 1) (dK D_Searches_countColorPages_0 12 rfl) q_370 hc0 (ltK rfl) (ltK rfl) rfl ?_
  refine vg_getO (pc := 23) (ci := 8) (f := 0) (dK D_Searches_countColorPages_0 13 rfl) q_221 (hw_6_1 hc0) (ltK rfl) (ltK rfl) rfl ?_
  refine vg_getI (pc := 26) (ci := 0) (f := 7) (dK D_Searches_countColorPages_0 14 rfl) q_106 (hw_8_0 (hw_6_1 hc0)) (ltK rfl) (ltK rfl) rfl ?_
  refine vg_icmp_ge (pc := 29) (t := 94) (dK D_Searches_countColorPages_0 15 rfl) rfl ha1 (g_in _ _ _) (fun hc12 => ?_) (fun hc12 => ?_)
  · replace h := ifP h hc12
    obtain rfl := Option.some.inj h
    refine gL_weak (ls' := [(0, .ref c0)]) (sbc 0 rfl sbn) ?_
    exact hx 
  · replace h := ifN h hc12
    refine g_aloadn (pc := 32) (i0 := 0) (j := 0) (dK D_Searches_countColorPages_0 16 rfl) rfl rfl ?_
    refine vg_getO (pc := 33) (ci := 6) (f := 0) (dK D_Searches_countColorPages_0 17 rfl) q_368 hc0 (ltK rfl) (ltK rfl) rfl ?_
    refine g_aloadn (pc := 36) (i0 := 0) (j := 0) (dK D_Searches_countColorPages_0 18 rfl) rfl rfl ?_
    refine vg_getO (pc := 37) (ci := 6) (f := 1) (dK D_Searches_countColorPages_0 19 rfl) q_370 hc0 (ltK rfl) (ltK rfl) rfl ?_
    refine vg_getO (pc := 40) (ci := 8) (f := 0) (dK D_Searches_countColorPages_0 20 rfl) q_221 (hw_6_1 hc0) (ltK rfl) (ltK rfl) rfl ?_
    refine vg_getA (pc := 43) (ci := 0) (f := 6) (dK D_Searches_countColorPages_0 21 rfl) q_101 (hw_8_0 (hw_6_1 hc0)) (ltK rfl) (ltK rfl) rfl ?_
    refine g_iloadn (pc := 46) (i0 := 1) (j := 1) (dK D_Searches_countColorPages_0 22 rfl) rfl rfl ?_
    refine gdE h (fun hi3 h => ?_)
    refine vg_iaload (pc := 47) (j := a1.toNat) (dK D_Searches_countColorPages_0 23 rfl) (hw_0_6 (hw_8_0 (hw_6_1 hc0))) rfl hi3 rfl ?_
    refine bnE h (fun p4 e_p4 h => ?_)
    refine vg_cV (pc := 48) (As := [V (g S (tgt (tgt (tgt c0 1) 0) 6) a1.toNat)]) (rest := []) (mc' := 0) (ms' := 0) (dK D_Searches_countColorPages_0 24 rfl) K_Searches_190 (fitK rfl) (ltK rfl) (hw_6_0 hc0) rfl (leK rfl) (leK rfl) (leK rfl) (tf_Plan_hasPage (hw_6_0 hc0) (g_in _ _ _) e_p4) (kcB ?_)
    refine vg_ifB_eq (pc := 51) (b := p4) (t := 88) (dK D_Searches_countColorPages_0 25 rfl) rfl (fun hc5 => ?_) (fun hc5 => ?_)
    · replace h := ifP h hc5
      refine g_aloadn (pc := 54) (i0 := 0) (j := 0) (dK D_Searches_countColorPages_0 26 rfl) rfl rfl ?_
      refine vg_getO (pc := 55) (ci := 6) (f := 1) (dK D_Searches_countColorPages_0 27 rfl) q_370 hc0 (ltK rfl) (ltK rfl) rfl ?_
      refine vg_getO (pc := 58) (ci := 8) (f := 0) (dK D_Searches_countColorPages_0 28 rfl) q_221 (hw_6_1 hc0) (ltK rfl) (ltK rfl) rfl ?_
      refine vg_getA (pc := 61) (ci := 0) (f := 2) (dK D_Searches_countColorPages_0 29 rfl) q_87 (hw_8_0 (hw_6_1 hc0)) (ltK rfl) (ltK rfl) rfl ?_
      refine g_iloadn (pc := 64) (i0 := 1) (j := 1) (dK D_Searches_countColorPages_0 30 rfl) rfl rfl ?_
      refine vg_iaload (pc := 65) (j := a1.toNat) (dK D_Searches_countColorPages_0 31 rfl) (hw_0_2 (hw_8_0 (hw_6_1 hc0))) rfl hi3 rfl ?_
      refine vg_iconst (pc := 66) (dK D_Searches_countColorPages_0 32 rfl) ?_
      refine vg_icmp_ne (pc := 67) (t := 88) (dK D_Searches_countColorPages_0 33 rfl) rfl (g_in _ _ _) (inRk rfl) (fun hc11 => ?_) (fun hc11 => ?_)
      · replace h := ifN h hc11
        refine nmE h (fun v7 e_v7 h => ?_)
        refine vg_iinc (pc := 88) (j := 1) (a := a1) (z := 1) (ls2 := [(1, V v7), (0, .ref c0)]) (dK D_Searches_countColorPages_0 44 rfl) rfl e_v7 (ltK rfl) rfl ?_
        refine g_goto (pc := 91) (tgt := 18) (dK D_Searches_countColorPages_0 45 rfl) rfl ?_
        refine gL_weak (ls' := [(0, .ref c0), (1, V v7)]) (sbc 1 rfl (sbc 0 rfl sbn)) ?_
        replace h := ih _ h
        exact h (Vn_in e_v7)
      · replace h := ifP h hc11
        refine g_aloadn (pc := 70) (i0 := 0) (j := 0) (dK D_Searches_countColorPages_0 34 rfl) rfl rfl ?_
        refine vg_getA (pc := 71) (ci := 6) (f := 9) (dK D_Searches_countColorPages_0 35 rfl) q_378 hc0 (ltK rfl) (ltK rfl) rfl ?_
        refine g_aloadn (pc := 74) (i0 := 0) (j := 0) (dK D_Searches_countColorPages_0 36 rfl) rfl rfl ?_
        refine vg_getO (pc := 75) (ci := 6) (f := 1) (dK D_Searches_countColorPages_0 37 rfl) q_370 hc0 (ltK rfl) (ltK rfl) rfl ?_
        refine vg_getO (pc := 78) (ci := 8) (f := 0) (dK D_Searches_countColorPages_0 38 rfl) q_221 (hw_6_1 hc0) (ltK rfl) (ltK rfl) rfl ?_
        refine vg_getA (pc := 81) (ci := 0) (f := 6) (dK D_Searches_countColorPages_0 39 rfl) q_101 (hw_8_0 (hw_6_1 hc0)) (ltK rfl) (ltK rfl) rfl ?_
        refine g_iloadn (pc := 84) (i0 := 1) (j := 1) (dK D_Searches_countColorPages_0 40 rfl) rfl rfl ?_
        refine vg_iaload (pc := 85) (j := a1.toNat) (dK D_Searches_countColorPages_0 41 rfl) (hw_0_6 (hw_8_0 (hw_6_1 hc0))) rfl hi3 rfl ?_
        refine vg_iconst (pc := 86) (dK D_Searches_countColorPages_0 42 rfl) ?_
        refine gdE h (fun hi8 h => ?_)
        refine nmE h (fun S9 e_S9 h => ?_)
        refine vg_iastore (pc := 87) (z := 1) (dK D_Searches_countColorPages_0 43 rfl) (hw_6_9 hc0) rfl hi8 rfl e_S9 ?_
        refine nmE h (fun v10 e_v10 h => ?_)
        refine vg_iinc (pc := 88) (j := 1) (a := a1) (z := 1) (ls2 := [(1, V v10), (0, .ref c0)]) (dK D_Searches_countColorPages_0 44 rfl) rfl e_v10 (ltK rfl) rfl ?_
        refine g_goto (pc := 91) (tgt := 18) (dK D_Searches_countColorPages_0 45 rfl) rfl ?_
        refine gL_weak (ls' := [(0, .ref c0), (1, V v10)]) (sbc 1 rfl (sbc 0 rfl sbn)) ?_
        replace h := ih _ h
        exact h (Vn_in e_v10)
    · replace h := ifN h hc5
      refine nmE h (fun v6 e_v6 h => ?_)
      refine vg_iinc (pc := 88) (j := 1) (a := a1) (z := 1) (ls2 := [(1, V v6), (0, .ref c0)]) (dK D_Searches_countColorPages_0 44 rfl) rfl e_v6 (ltK rfl) rfl ?_
      refine g_goto (pc := 91) (tgt := 18) (dK D_Searches_countColorPages_0 45 rfl) rfl ?_
      refine gL_weak (ls' := [(0, .ref c0), (1, V v6)]) (sbc 1 rfl (sbc 0 rfl sbn)) ?_
      replace h := ih _ h
      exact h (Vn_in e_v6)
def lb_Searches_countColorPages_96 (c0 : Nat) (go : Int × St → Option (St)) (a1 : Int) (S : St) : Option (St) := if (g S (tgt c0 0) 1) < a1 then (some S) else (if 0 ≤ a1 ∧ a1 < 65 then (if (g S (tgt (tgt c0 0) 6) a1.toNat) = (-1) then (if 0 ≤ (g S (tgt (tgt c0 0) 3) a1.toNat) ∧ (g S (tgt (tgt c0 0) 3) a1.toNat) < 8 then (nm (u S (tgt c0 8) (((g S (tgt (tgt c0 0) 3) a1.toNat)).toNat) ((g S (tgt c0 8) (((g S (tgt (tgt c0 0) 3) a1.toNat)).toNat)) + (g S (tgt c0 9) a1.toNat))) fun S16 => nm (wr (a1 + 1)) fun v17 => go (v17, S16)) else none) else (if 0 ≤ (g S (tgt (tgt c0 0) 6) a1.toNat) ∧ (g S (tgt (tgt c0 0) 6) a1.toNat) < 10 then (if (g S (tgt (tgt (tgt c0 1) 1) 1) (((g S (tgt (tgt c0 0) 6) a1.toNat)).toNat)) = 1 then (nm (u S (tgt c0 9) a1.toNat 1) fun S22 => if 0 ≤ (g S22 (tgt (tgt c0 0) 3) a1.toNat) ∧ (g S22 (tgt (tgt c0 0) 3) a1.toNat) < 8 then (nm (u S22 (tgt c0 8) (((g S22 (tgt (tgt c0 0) 3) a1.toNat)).toNat) ((g S22 (tgt c0 8) (((g S22 (tgt (tgt c0 0) 3) a1.toNat)).toNat)) + (g S22 (tgt c0 9) a1.toNat))) fun S24 => nm (wr (a1 + 1)) fun v25 => go (v25, S24)) else none) else (if 0 ≤ (g S (tgt (tgt c0 0) 3) a1.toNat) ∧ (g S (tgt (tgt c0 0) 3) a1.toNat) < 8 then (nm (u S (tgt c0 8) (((g S (tgt (tgt c0 0) 3) a1.toNat)).toNat) ((g S (tgt c0 8) (((g S (tgt (tgt c0 0) 3) a1.toNat)).toNat)) + (g S (tgt c0 9) a1.toNat))) fun S20 => nm (wr (a1 + 1)) fun v21 => go (v21, S20)) else none)) else none)) else none)
def lo_Searches_countColorPages_96 (c0 : Nat) : Nat → Int × St → Option (St) := lp fun go p => lb_Searches_countColorPages_96 c0 go p.1 p.2
theorem tl_Searches_countColorPages_96 {E : EV} {X : XT} {c0 : Nat} (hc0 : HC X 6 c0) {K : RK → PS → Prop} {q : St} (hx : Go E M_Searches_countColorPages 0 0 174 [] [] (WX X q) 0 0 K) : ∀ n a, lo_Searches_countColorPages_96 c0 n a = some q → inR a.1 → Go E M_Searches_countColorPages 0 0 96 [(0, .ref c0), (1, V a.1)] [] (WX X a.2) 0 0 K := by
  refine lp_ind (P := fun a : Int × St => inR a.1 → Go E M_Searches_countColorPages 0 0 96 [(0, .ref c0), (1, V a.1)] [] (WX X a.2) 0 0 K) (fun go ih a h => ?_)
  obtain ⟨a1, S⟩ := a
  intro ha1
  show Go E M_Searches_countColorPages 0 0 96 [(0, .ref c0), (1, V a1)] [] (WX X S) 0 0 K
  replace h : lb_Searches_countColorPages_96 c0 go a1 S = some q := h
  unfold lb_Searches_countColorPages_96 at h
  refine g_iloadn (pc := 96) (i0 := 1) (j := 1) (dK D_Searches_countColorPages_0 48 rfl) rfl rfl ?_
  refine g_aloadn (pc := 97) (i0 := 0) (j := 0) (dK D_Searches_countColorPages_0 49 rfl) rfl rfl ?_
  refine vg_getO (pc := 98) (ci := 6) (f := 0) (dK D_Searches_countColorPages_1 0 rfl) q_368 hc0 (ltK rfl) (ltK rfl) rfl ?_
  refine vg_getI (pc := 101) (ci := 4) (f := 1) (dK D_Searches_countColorPages_1 1 rfl) q_295 (hw_6_0 hc0) (ltK rfl) (ltK rfl) rfl ?_
  refine vg_icmp_gt (pc := 104) (t := 174) (dK D_Searches_countColorPages_1 2 rfl) rfl ha1 (g_in _ _ _) (fun hc28 => ?_) (fun hc28 => ?_)
  · replace h := ifP h hc28
    obtain rfl := Option.some.inj h
    refine gL_weak (ls' := []) sbn ?_
    exact hx 
  · replace h := ifN h hc28
    refine g_aloadn (pc := 107) (i0 := 0) (j := 0) (dK D_Searches_countColorPages_1 3 rfl) rfl rfl ?_
    refine vg_getO (pc := 108) (ci := 6) (f := 0) (dK D_Searches_countColorPages_1 4 rfl) q_368 hc0 (ltK rfl) (ltK rfl) rfl ?_
    refine vg_getA (pc := 111) (ci := 4) (f := 6) (dK D_Searches_countColorPages_1 5 rfl) q_310 (hw_6_0 hc0) (ltK rfl) (ltK rfl) rfl ?_
    refine g_iloadn (pc := 114) (i0 := 1) (j := 1) (dK D_Searches_countColorPages_1 6 rfl) rfl rfl ?_
    refine gdE h (fun hi14 h => ?_)
    refine vg_iaload (pc := 115) (j := a1.toNat) (dK D_Searches_countColorPages_1 7 rfl) (hw_4_6 (hw_6_0 hc0)) rfl hi14 rfl ?_
    refine g_istoren (pc := 116) (i0 := 2) (ls2 := [(2, V (g S (tgt (tgt c0 0) 6) a1.toNat)), (0, .ref c0), (1, V a1)]) (dK D_Searches_countColorPages_1 8 rfl) rfl (ltK rfl) rfl ?_
    refine g_iloadn (pc := 117) (i0 := 2) (j := 0) (dK D_Searches_countColorPages_1 9 rfl) rfl rfl ?_
    refine vg_iconst (pc := 118) (dK D_Searches_countColorPages_1 10 rfl) ?_
    refine vg_icmp_eq (pc := 119) (t := 145) (dK D_Searches_countColorPages_1 11 rfl) rfl (g_in _ _ _) (inRk rfl) (fun hc27 => ?_) (fun hc27 => ?_)
    · replace h := ifP h hc27
      refine g_aloadn (pc := 145) (i0 := 0) (j := 1) (dK D_Searches_countColorPages_1 25 rfl) rfl rfl ?_
      refine vg_getA (pc := 146) (ci := 6) (f := 8) (dK D_Searches_countColorPages_1 26 rfl) q_377 hc0 (ltK rfl) (ltK rfl) rfl ?_
      refine g_aloadn (pc := 149) (i0 := 0) (j := 1) (dK D_Searches_countColorPages_1 27 rfl) rfl rfl ?_
      refine vg_getO (pc := 150) (ci := 6) (f := 0) (dK D_Searches_countColorPages_1 28 rfl) q_368 hc0 (ltK rfl) (ltK rfl) rfl ?_
      refine vg_getA (pc := 153) (ci := 4) (f := 3) (dK D_Searches_countColorPages_1 29 rfl) q_304 (hw_6_0 hc0) (ltK rfl) (ltK rfl) rfl ?_
      refine g_iloadn (pc := 156) (i0 := 1) (j := 2) (dK D_Searches_countColorPages_1 30 rfl) rfl rfl ?_
      refine vg_iaload (pc := 157) (j := a1.toNat) (dK D_Searches_countColorPages_1 31 rfl) (hw_4_3 (hw_6_0 hc0)) rfl hi14 rfl ?_
      refine g_dup2 (pc := 158) (dK D_Searches_countColorPages_1 32 rfl) rfl rfl ?_
      refine gdE h (fun hi15 h => ?_)
      refine vg_iaload (pc := 159) (j := ((g S (tgt (tgt c0 0) 3) a1.toNat)).toNat) (dK D_Searches_countColorPages_1 33 rfl) (hw_6_8 hc0) rfl hi15 rfl ?_
      refine g_aloadn (pc := 160) (i0 := 0) (j := 1) (dK D_Searches_countColorPages_1 34 rfl) rfl rfl ?_
      refine vg_getA (pc := 161) (ci := 6) (f := 9) (dK D_Searches_countColorPages_1 35 rfl) q_378 hc0 (ltK rfl) (ltK rfl) rfl ?_
      refine g_iloadn (pc := 164) (i0 := 1) (j := 2) (dK D_Searches_countColorPages_1 36 rfl) rfl rfl ?_
      refine vg_iaload (pc := 165) (j := a1.toNat) (dK D_Searches_countColorPages_1 37 rfl) (hw_6_9 hc0) rfl hi14 rfl ?_
      refine vg_iadd (pc := 166) (dK D_Searches_countColorPages_1 38 rfl) ?_
      refine nmE h (fun S16 e_S16 h => ?_)
      refine vg_iastore (pc := 167) (z := ((g S (tgt c0 8) (((g S (tgt (tgt c0 0) 3) a1.toNat)).toNat)) + (g S (tgt c0 9) a1.toNat))) (dK D_Searches_countColorPages_1 39 rfl) (hw_6_8 hc0) rfl hi15 rfl e_S16 ?_
      refine nmE h (fun v17 e_v17 h => ?_)
      refine vg_iinc (pc := 168) (j := 2) (a := a1) (z := 1) (ls2 := [(1, V v17), (2, V (g S (tgt (tgt c0 0) 6) a1.toNat)), (0, .ref c0)]) (dK D_Searches_countColorPages_1 40 rfl) rfl e_v17 (ltK rfl) rfl ?_
      refine g_goto (pc := 171) (tgt := 96) (dK D_Searches_countColorPages_1 41 rfl) rfl ?_
      refine gL_weak (ls' := [(0, .ref c0), (1, V v17)]) (sbc 2 rfl (sbc 0 rfl sbn)) ?_
      replace h := ih _ h
      exact h (Vn_in e_v17)
    · replace h := ifN h hc27
      refine g_aloadn (pc := 122) (i0 := 0) (j := 1) (dK D_Searches_countColorPages_1 12 rfl) rfl rfl ?_
      refine vg_getO (pc := 123) (ci := 6) (f := 1) (dK D_Searches_countColorPages_1 13 rfl) q_370 hc0 (ltK rfl) (ltK rfl) rfl ?_
      refine vg_getO (pc := 126) (ci := 8) (f := 1) (dK D_Searches_countColorPages_1 14 rfl) q_227 (hw_6_1 hc0) (ltK rfl) (ltK rfl) rfl ?_
      refine vg_getA (pc := 129) (ci := 9) (f := 1) (dK D_Searches_countColorPages_1 15 rfl) q_140 (hw_8_1 (hw_6_1 hc0)) (ltK rfl) (ltK rfl) rfl ?_
      refine g_iloadn (pc := 132) (i0 := 2) (j := 0) (dK D_Searches_countColorPages_1 16 rfl) rfl rfl ?_
      refine gdE h (fun hi18 h => ?_)
      refine vg_iaload (pc := 133) (j := ((g S (tgt (tgt c0 0) 6) a1.toNat)).toNat) (dK D_Searches_countColorPages_1 17 rfl) (hw_9_1 (hw_8_1 (hw_6_1 hc0))) rfl hi18 rfl ?_
      refine vg_iconst (pc := 134) (dK D_Searches_countColorPages_1 18 rfl) ?_
      refine vg_icmp_ne (pc := 135) (t := 145) (dK D_Searches_countColorPages_1 19 rfl) rfl (g_in _ _ _) (inRk rfl) (fun hc26 => ?_) (fun hc26 => ?_)
      · replace h := ifN h hc26
        refine g_aloadn (pc := 145) (i0 := 0) (j := 1) (dK D_Searches_countColorPages_1 25 rfl) rfl rfl ?_
        refine vg_getA (pc := 146) (ci := 6) (f := 8) (dK D_Searches_countColorPages_1 26 rfl) q_377 hc0 (ltK rfl) (ltK rfl) rfl ?_
        refine g_aloadn (pc := 149) (i0 := 0) (j := 1) (dK D_Searches_countColorPages_1 27 rfl) rfl rfl ?_
        refine vg_getO (pc := 150) (ci := 6) (f := 0) (dK D_Searches_countColorPages_1 28 rfl) q_368 hc0 (ltK rfl) (ltK rfl) rfl ?_
        refine vg_getA (pc := 153) (ci := 4) (f := 3) (dK D_Searches_countColorPages_1 29 rfl) q_304 (hw_6_0 hc0) (ltK rfl) (ltK rfl) rfl ?_
        refine g_iloadn (pc := 156) (i0 := 1) (j := 2) (dK D_Searches_countColorPages_1 30 rfl) rfl rfl ?_
        refine vg_iaload (pc := 157) (j := a1.toNat) (dK D_Searches_countColorPages_1 31 rfl) (hw_4_3 (hw_6_0 hc0)) rfl hi14 rfl ?_
        refine g_dup2 (pc := 158) (dK D_Searches_countColorPages_1 32 rfl) rfl rfl ?_
        refine gdE h (fun hi19 h => ?_)
        refine vg_iaload (pc := 159) (j := ((g S (tgt (tgt c0 0) 3) a1.toNat)).toNat) (dK D_Searches_countColorPages_1 33 rfl) (hw_6_8 hc0) rfl hi19 rfl ?_
        refine g_aloadn (pc := 160) (i0 := 0) (j := 1) (dK D_Searches_countColorPages_1 34 rfl) rfl rfl ?_
        refine vg_getA (pc := 161) (ci := 6) (f := 9) (dK D_Searches_countColorPages_1 35 rfl) q_378 hc0 (ltK rfl) (ltK rfl) rfl ?_
        refine g_iloadn (pc := 164) (i0 := 1) (j := 2) (dK D_Searches_countColorPages_1 36 rfl) rfl rfl ?_
        refine vg_iaload (pc := 165) (j := a1.toNat) (dK D_Searches_countColorPages_1 37 rfl) (hw_6_9 hc0) rfl hi14 rfl ?_
        refine vg_iadd (pc := 166) (dK D_Searches_countColorPages_1 38 rfl) ?_
        refine nmE h (fun S20 e_S20 h => ?_)
        refine vg_iastore (pc := 167) (z := ((g S (tgt c0 8) (((g S (tgt (tgt c0 0) 3) a1.toNat)).toNat)) + (g S (tgt c0 9) a1.toNat))) (dK D_Searches_countColorPages_1 39 rfl) (hw_6_8 hc0) rfl hi19 rfl e_S20 ?_
        refine nmE h (fun v21 e_v21 h => ?_)
        refine vg_iinc (pc := 168) (j := 2) (a := a1) (z := 1) (ls2 := [(1, V v21), (2, V (g S (tgt (tgt c0 0) 6) a1.toNat)), (0, .ref c0)]) (dK D_Searches_countColorPages_1 40 rfl) rfl e_v21 (ltK rfl) rfl ?_
        refine g_goto (pc := 171) (tgt := 96) (dK D_Searches_countColorPages_1 41 rfl) rfl ?_
        refine gL_weak (ls' := [(0, .ref c0), (1, V v21)]) (sbc 2 rfl (sbc 0 rfl sbn)) ?_
        replace h := ih _ h
        exact h (Vn_in e_v21)
      · replace h := ifP h hc26
        refine g_aloadn (pc := 138) (i0 := 0) (j := 1) (dK D_Searches_countColorPages_1 20 rfl) rfl rfl ?_
        refine vg_getA (pc := 139) (ci := 6) (f := 9) (dK D_Searches_countColorPages_1 21 rfl) q_378 hc0 (ltK rfl) (ltK rfl) rfl ?_
        refine g_iloadn (pc := 142) (i0 := 1) (j := 2) (dK D_Searches_countColorPages_1 22 rfl) rfl rfl ?_
        refine vg_iconst (pc := 143) (dK D_Searches_countColorPages_1 23 rfl) ?_
        refine nmE h (fun S22 e_S22 h => ?_)
        refine vg_iastore (pc := 144) (z := 1) (dK D_Searches_countColorPages_1 24 rfl) (hw_6_9 hc0) rfl hi14 rfl e_S22 ?_
        refine g_aloadn (pc := 145) (i0 := 0) (j := 1) (dK D_Searches_countColorPages_1 25 rfl) rfl rfl ?_
        refine vg_getA (pc := 146) (ci := 6) (f := 8) (dK D_Searches_countColorPages_1 26 rfl) q_377 hc0 (ltK rfl) (ltK rfl) rfl ?_
        refine g_aloadn (pc := 149) (i0 := 0) (j := 1) (dK D_Searches_countColorPages_1 27 rfl) rfl rfl ?_
        refine vg_getO (pc := 150) (ci := 6) (f := 0) (dK D_Searches_countColorPages_1 28 rfl) q_368 hc0 (ltK rfl) (ltK rfl) rfl ?_
        refine vg_getA (pc := 153) (ci := 4) (f := 3) (dK D_Searches_countColorPages_1 29 rfl) q_304 (hw_6_0 hc0) (ltK rfl) (ltK rfl) rfl ?_
        refine g_iloadn (pc := 156) (i0 := 1) (j := 2) (dK D_Searches_countColorPages_1 30 rfl) rfl rfl ?_
        refine vg_iaload (pc := 157) (j := a1.toNat) (dK D_Searches_countColorPages_1 31 rfl) (hw_4_3 (hw_6_0 hc0)) rfl hi14 rfl ?_
        refine g_dup2 (pc := 158) (dK D_Searches_countColorPages_1 32 rfl) rfl rfl ?_
        refine gdE h (fun hi23 h => ?_)
        refine vg_iaload (pc := 159) (j := ((g S22 (tgt (tgt c0 0) 3) a1.toNat)).toNat) (dK D_Searches_countColorPages_1 33 rfl) (hw_6_8 hc0) rfl hi23 rfl ?_
        refine g_aloadn (pc := 160) (i0 := 0) (j := 1) (dK D_Searches_countColorPages_1 34 rfl) rfl rfl ?_
        refine vg_getA (pc := 161) (ci := 6) (f := 9) (dK D_Searches_countColorPages_1 35 rfl) q_378 hc0 (ltK rfl) (ltK rfl) rfl ?_
        refine g_iloadn (pc := 164) (i0 := 1) (j := 2) (dK D_Searches_countColorPages_1 36 rfl) rfl rfl ?_
        refine vg_iaload (pc := 165) (j := a1.toNat) (dK D_Searches_countColorPages_1 37 rfl) (hw_6_9 hc0) rfl hi14 rfl ?_
        refine vg_iadd (pc := 166) (dK D_Searches_countColorPages_1 38 rfl) ?_
        refine nmE h (fun S24 e_S24 h => ?_)
        refine vg_iastore (pc := 167) (z := ((g S22 (tgt c0 8) (((g S22 (tgt (tgt c0 0) 3) a1.toNat)).toNat)) + (g S22 (tgt c0 9) a1.toNat))) (dK D_Searches_countColorPages_1 39 rfl) (hw_6_8 hc0) rfl hi23 rfl e_S24 ?_
        refine nmE h (fun v25 e_v25 h => ?_)
        refine vg_iinc (pc := 168) (j := 2) (a := a1) (z := 1) (ls2 := [(1, V v25), (2, V (g S (tgt (tgt c0 0) 6) a1.toNat)), (0, .ref c0)]) (dK D_Searches_countColorPages_1 40 rfl) rfl e_v25 (ltK rfl) rfl ?_
        refine g_goto (pc := 171) (tgt := 96) (dK D_Searches_countColorPages_1 41 rfl) rfl ?_
        refine gL_weak (ls' := [(0, .ref c0), (1, V v25)]) (sbc 2 rfl (sbc 0 rfl sbn)) ?_
        replace h := ih _ h
        exact h (Vn_in e_v25)
def fn_Searches_countColorPages (c0 : Nat) (S : St) : Option (St) := bnO (fn_Arrays_fill 65 (tgt c0 9) 0 S) fun p1 => bnO (fn_Arrays_fill 8 (tgt c0 8) 0 p1) fun p2 => bnO (lo_Searches_countColorPages_18 c0 FU (0, p2)) fun p13 => bnO (lo_Searches_countColorPages_96 c0 FU (1, p13)) fun p29 => some p29
theorem tf_Searches_countColorPages {E : EV} {X : XT} {c0 : Nat} (hc0 : HC X 6 c0) {S : St} {q : St} (h : fn_Searches_countColorPages c0 S = some q) : Ev E M_Searches_countColorPages [.ref c0] (WX X S) 0 0 (KU X q) := by
  refine Ev.of pn_Searches rfl (leK rfl) ?_
  show Go E M_Searches_countColorPages 0 0 0 [(0, .ref c0)] [] (WX X S) 0 0 (KU X q)
  unfold fn_Searches_countColorPages at h
  refine g_aloadn (pc := 0) (i0 := 0) (j := 0) (dK D_Searches_countColorPages_0 0 rfl) rfl rfl ?_
  refine vg_getA (pc := 1) (ci := 6) (f := 9) (dK D_Searches_countColorPages_0 1 rfl) q_378 hc0 (ltK rfl) (ltK rfl) rfl ?_
  refine vg_iconst (pc := 4) (dK D_Searches_countColorPages_0 2 rfl) ?_
  refine bnE h (fun p1 e_p1 h => ?_)
  refine vg_cS (pc := 5) (As := [.ref (tgt c0 9), V 0]) (rest := []) (mc' := 0) (ms' := 0) (dK D_Searches_countColorPages_0 3 rfl) K_Searches_140 (fitK rfl) rfl (leK rfl) (leK rfl) (leK rfl) (tf_Arrays_fill rfl (hw_6_9 hc0) (inRk rfl) e_p1) (kcU ?_)
  refine g_aloadn (pc := 8) (i0 := 0) (j := 0) (dK D_Searches_countColorPages_0 4 rfl) rfl rfl ?_
  refine vg_getA (pc := 9) (ci := 6) (f := 8) (dK D_Searches_countColorPages_0 5 rfl) q_377 hc0 (ltK rfl) (ltK rfl) rfl ?_
  refine vg_iconst (pc := 12) (dK D_Searches_countColorPages_0 6 rfl) ?_
  refine bnE h (fun p2 e_p2 h => ?_)
  refine vg_cS (pc := 13) (As := [.ref (tgt c0 8), V 0]) (rest := []) (mc' := 0) (ms' := 0) (dK D_Searches_countColorPages_0 7 rfl) K_Searches_140 (fitK rfl) rfl (leK rfl) (leK rfl) (leK rfl) (tf_Arrays_fill rfl (hw_6_8 hc0) (inRk rfl) e_p2) (kcU ?_)
  refine vg_iconst (pc := 16) (dK D_Searches_countColorPages_0 8 rfl) ?_
  refine g_istoren (pc := 17) (i0 := 1) (ls2 := [(1, V 0), (0, .ref c0)]) (dK D_Searches_countColorPages_0 9 rfl) rfl (ltK rfl) rfl ?_
  refine bnE h (fun p13 e_p13 h => ?_)
  refine gL_weak (ls' := [(0, .ref c0), (1, V 0)]) (sbc 1 rfl (sbc 0 rfl sbn)) ?_
  refine tl_Searches_countColorPages_18 hc0 ?_ FU (0, p2) e_p13 (inRk rfl)
  refine vg_iconst (pc := 94) (dK D_Searches_countColorPages_0 46 rfl) ?_
  refine g_istoren (pc := 95) (i0 := 1) (ls2 := [(1, V 1), (0, .ref c0)]) (dK D_Searches_countColorPages_0 47 rfl) rfl (ltK rfl) rfl ?_
  refine bnE h (fun p29 e_p29 h => ?_)
  refine gL_weak (ls' := [(0, .ref c0), (1, V 1)]) (sbc 1 rfl (sbc 0 rfl sbn)) ?_
  refine tl_Searches_countColorPages_96 hc0 ?_ FU (1, p13) e_p29 (inRk rfl)
  exact g_return (pc := 174) (dK D_Searches_countColorPages_1 42 rfl) rfl (leK rfl) (leK rfl) (fun _ => rfl) (by obtain rfl := Option.some.inj h; exact ⟨rfl, rfl⟩)
