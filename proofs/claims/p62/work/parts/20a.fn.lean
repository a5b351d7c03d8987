def lb_Arrays_fill_5 (nc0 : Nat) (c0 : Nat) (a1 : Int) (a3 : Int) (go : Int × St → Option (St)) (a2 : Int) (S : St) : Option (St) := if a3 ≤ a2 then (some S) else (if 0 ≤ a2 ∧ a2 < (nc0 : Int) then (nm (u S c0 a2.toNat a1) fun S2 => nm (wr (a2 + 1)) fun v3 => go (v3, S2)) else none)
def lo_Arrays_fill_5 (nc0 : Nat) (c0 : Nat) (a1 : Int) (a3 : Int) : Nat → Int × St → Option (St) := lp fun go p => lb_Arrays_fill_5 nc0 c0 a1 a3 go p.1 p.2
theorem tl_Arrays_fill_5 {E : EV} {X : XT} {nc0 c0 : Nat} (hnc0 : Nat.ble nc0 99999 = true) (hc0 : HA X 0 nc0 c0) {a1 : Int} (ha1 : inR a1) {a3 : Int} (ha3 : inR a3) {K : RK → PS → Prop} {q : St} (hx : Go E M_Arrays_fill 0 0 20 [] [] (WX X q) 0 0 K) : ∀ n a, lo_Arrays_fill_5 nc0 c0 a1 a3 n a = some q → inR a.1 → Go E M_Arrays_fill 0 0 5 [(0, .ref c0), (1, V a1), (2, V a.1), (3, V a3)] [] (WX X a.2) 0 0 K := by
  refine lp_ind (P := fun a : Int × St => inR a.1 → Go E M_Arrays_fill 0 0 5 [(0, .ref c0), (1, V a1), (2, V a.1), (3, V a3)] [] (WX X a.2) 0 0 K) (fun go ih a h => ?_)
  obtain ⟨a2, S⟩ := a
  intro ha2
  show Go E M_Arrays_fill 0 0 5 [(0, .ref c0), (1, V a1), (2, V a2), (3, V a3)] [] (WX X S) 0 0 K
  replace h : lb_Arrays_fill_5 nc0 c0 a1 a3 go a2 S = some q := h
  unfold lb_Arrays_fill_5 at h
  refine g_iloadn (pc := 5) (i0 := 2) (j := 2) (dK D_Arrays_fill 5 rfl) rfl rfl ?_
  refine g_iloadn (pc := 6) (i0 := 3) (j := 3) (dK D_Arrays_fill 6 rfl) rfl rfl ?_
  refine vg_icmp_ge (pc := 7) (t := 20) (dK D_Arrays_fill 7 rfl) rfl ha2 ha3 (fun hc4 => ?_) (fun hc4 => ?_)
  · replace h := ifP h hc4
    obtain rfl := Option.some.inj h
    refine gL_weak (ls' := []) sbn ?_
    exact hx 
  · replace h := ifN h hc4
    refine g_aloadn (pc := 10) (i0 := 0) (j := 0) (dK D_Arrays_fill 8 rfl) rfl rfl ?_
    refine g_iloadn (pc := 11) (i0 := 2) (j := 2) (dK D_Arrays_fill 9 rfl) rfl rfl ?_
    refine g_iloadn (pc := 12) (i0 := 1) (j := 1) (dK D_Arrays_fill 10 rfl) rfl rfl ?_
    refine gdE h (fun hi1 h => ?_)
    refine nmE h (fun S2 e_S2 h => ?_)
    refine vg_iastore (pc := 13) (z := a1) (dK D_Arrays_fill 11 rfl) hc0 hnc0 hi1 rfl e_S2 ?_
    refine nmE h (fun v3 e_v3 h => ?_)
    refine vg_iinc (pc := 14) (j := 2) (a := a2) (z := 1) (ls2 := [(2, V v3), (0, .ref c0), (1, V a1), (3, V a3)]) (dK D_Arrays_fill 12 rfl) rfl e_v3 (ltK rfl) rfl ?_
    refine g_goto (pc := 17) (tgt := 5) (dK D_Arrays_fill 13 rfl) rfl ?_
    refine gL_weak (ls' := [(0, .ref c0), (1, V a1), (2, V v3), (3, V a3)]) (sbc 1 rfl (sbc 2 rfl (sbc 0 rfl (sbc 3 rfl sbn)))) ?_
    replace h := ih _ h
    exact h (Vn_in e_v3)
def fn_Arrays_fill (n0 : Nat) (c0 : Nat) (a1 : Int) (S : St) : Option (St) := bnO (lo_Arrays_fill_5 n0 c0 a1 (n0 : Int) FU (0, S)) fun p5 => some p5
theorem tf_Arrays_fill {E : EV} {X : XT} {n0 c0 : Nat} (hn0 : Nat.ble n0 99999 = true) (hc0 : HA X 0 n0 c0) {a1 : Int} (ha1 : inR a1) {S : St} {q : St} (h : fn_Arrays_fill n0 c0 a1 S = some q) : Ev E M_Arrays_fill [.ref c0, V a1] (WX X S) 0 0 (KU X q) := by
  refine Ev.of pn_Arrays rfl (leK rfl) ?_
  show Go E M_Arrays_fill 0 0 0 [(0, .ref c0), (1, V a1)] [] (WX X S) 0 0 (KU X q)
  unfold fn_Arrays_fill at h
  refine vg_iconst (pc := 0) (dK D_Arrays_fill 0 rfl) ?_
  refine g_istoren (pc := 1) (i0 := 2) (ls2 := [(2, V 0), (0, .ref c0), (1, V a1)]) (dK D_Arrays_fill 1 rfl) rfl (ltK rfl) rfl ?_
  refine g_aloadn (pc := 2) (i0 := 0) (j := 1) (dK D_Arrays_fill 2 rfl) rfl rfl ?_
  refine vg_alen (pc := 3) (dK D_Arrays_fill 3 rfl) (ltK rfl) hc0 ?_
  refine g_istoren (pc := 4) (i0 := 3) (ls2 := [(3, V (n0 : Int)), (2, V 0), (0, .ref c0), (1, V a1)]) (dK D_Arrays_fill 4 rfl) rfl (ltK rfl) rfl ?_
  refine bnE h (fun p5 e_p5 h => ?_)
  refine gL_weak (ls' := [(0, .ref c0), (1, V a1), (2, V 0), (3, V (n0 : Int))]) (sbc 2 rfl (sbc 3 rfl (sbc 1 rfl (sbc 0 rfl sbn)))) ?_
  refine tl_Arrays_fill_5 hn0 hc0 ha1 (inR_nat hn0) ?_ FU (0, S) e_p5 (inRk rfl)
  exact g_return (pc := 20) (dK D_Arrays_fill 14 rfl) rfl (leK rfl) (leK rfl) (fun _ => rfl) (by obtain rfl := Option.some.inj h; exact ⟨rfl, rfl⟩)
def lb_Plan_layOut_59 (c0 : Nat) (a2 : Int) (go : Int × Int × St → Option (Int × St)) (a1 : Int) (a3 : Int) (S : St) : Option (Int × St) := if (g S (tgt c0 0) 5) ≤ a3 then (some (a1, S)) else (if (g S c0 1) < a1 then (some (a1, S)) else (nm (wr (a3.tmod 4)) fun v5 => if v5 = 0 then (if 0 ≤ a1 ∧ a1 < 65 then (nm (u S (tgt c0 4) a1.toNat a2) fun S7 => nm (u S7 (tgt c0 3) a1.toNat ((2 * a2) + 0)) fun S8 => nm (wr (a1 + 1)) fun v9 => nm (wr (a3 + 1)) fun v10 => go (v9, v10, S8)) else none) else (nm (wr (a3.tmod 4)) fun v11 => if v11 = 3 then (if 0 ≤ a1 ∧ a1 < 65 then (nm (u S (tgt c0 4) a1.toNat a2) fun S18 => nm (u S18 (tgt c0 3) a1.toNat ((2 * a2) + 0)) fun S19 => nm (wr (a1 + 1)) fun v20 => nm (wr (a3 + 1)) fun v21 => go (v20, v21, S19)) else none) else (if 0 ≤ a1 ∧ a1 < 65 then (nm (u S (tgt c0 4) a1.toNat a2) fun S13 => nm (u S13 (tgt c0 3) a1.toNat ((2 * a2) + 1)) fun S14 => nm (wr (a1 + 1)) fun v15 => nm (wr (a3 + 1)) fun v16 => go (v15, v16, S14)) else none))))
def lo_Plan_layOut_59 (c0 : Nat) (a2 : Int) : Nat → Int × Int × St → Option (Int × St) := lp fun go p => lb_Plan_layOut_59 c0 a2 go p.1 p.2.1 p.2.2
theorem tl_Plan_layOut_59 {E : EV} {X : XT} {c0 : Nat} (hc0 : HC X 4 c0) {a2 : Int} (ha2 : inR a2) {K : RK → PS → Prop} {q : Int × St} (hx : inR q.1 → Go E M_Plan_layOut 0 0 134 [(0, .ref c0), (1, V q.1), (2, V a2)] [] (WX X q.2) 0 0 K) : ∀ n a, lo_Plan_layOut_59 c0 a2 n a = some q → inR a.1 → inR a.2.1 → Go E M_Plan_layOut 0 0 59 [(0, .ref c0), (1, V a.1), (2, V a2), (3, V a.2.1)] [] (WX X a.2.2) 0 0 K := by
  refine lp_ind (P := fun a : Int × Int × St => inR a.1 → inR a.2.1 → Go E M_Plan_layOut 0 0 59 [(0, .ref c0), (1, V a.1), (2, V a2), (3, V a.2.1)] [] (WX X a.2.2) 0 0 K) (fun go ih a h => ?_)
  obtain ⟨a1, a3, S⟩ := a
  intro ha1 ha3
  show Go E M_Plan_layOut 0 0 59 [(0, .ref c0), (1, V a1), (2, V a2), (3, V a3)] [] (WX X S) 0 0 K
  replace h : lb_Plan_layOut_59 c0 a2 go a1 a3 S = some q := h
  unfold lb_Plan_layOut_59 at h
  refine g_iloadn (pc := 59) (i0 := 3) (j := 3) (dK D_Plan_layOut_0 31 rfl) rfl rfl ?_
  refine g_aloadn (pc := 60) (i0 := 0) (j := 0) (dK D_Plan_layOut_0 32 rfl) rfl rfl ?_
  refine vg_getO (pc := 61) (ci := 4) (f := 0) (dK D_Plan_layOut_0 33 rfl) q_301 hc0 (ltK rfl) (ltK rfl) rfl ?_
  refine vg_getI (pc := 64) (ci := 8) (f := 5) (dK D_Plan_layOut_0 34 rfl) q_253 (hw_4_0 hc0) (ltK rfl) (ltK rfl) rfl ?_
  refine vg_icmp_ge (pc := 67) (t := 134) (dK D_Plan_layOut_0 35 rfl) rfl ha3 (g_in _ _ _) (fun hc25 => ?_) (fun hc25 => ?_)
  · replace h := ifP h hc25
    obtain rfl := Option.some.inj h
    refine gL_weak (ls' := [(0, .ref c0), (1, V a1), (2, V a2)]) (sbc 0 rfl (sbc 1 rfl (sbc 2 rfl sbn))) ?_
    exact hx ha1
  · replace h := ifN h hc25
    refine g_iloadn (pc := 70) (i0 := 1) (j := 1) (dK D_Plan_layOut_0 36 rfl) rfl rfl ?_
    refine g_aloadn (pc := 71) (i0 := 0) (j := 0) (dK D_Plan_layOut_0 37 rfl) rfl rfl ?_
    refine vg_getI (pc := 72) (ci := 4) (f := 1) (dK D_Plan_layOut_0 38 rfl) q_305 hc0 (ltK rfl) (ltK rfl) rfl ?_
    refine vg_icmp_gt (pc := 75) (t := 134) (dK D_Plan_layOut_0 39 rfl) rfl ha1 (g_in _ _ _) (fun hc24 => ?_) (fun hc24 => ?_)
    · replace h := ifP h hc24
      obtain rfl := Option.some.inj h
      refine gL_weak (ls' := [(0, .ref c0), (1, V a1), (2, V a2)]) (sbc 0 rfl (sbc 1 rfl (sbc 2 rfl sbn))) ?_
      exact hx ha1
    · replace h := ifN h hc24
      refine g_iloadn (pc := 78) (i0 := 3) (j := 3) (dK D_Plan_layOut_0 40 rfl) rfl rfl ?_
      refine vg_iconst (pc := 79) (dK D_Plan_layOut_0 41 rfl) ?_
      refine vg_irem (pc := 80) (dK D_Plan_layOut_0 42 rfl) ha3 (inRk rfl) (by decide) ?_
      refine nmE h (fun v5 e_v5 h => ?_)
      refine gtop e_v5 ?_
      refine vg_if_eq (pc := 81) (t := 91) (dK D_Plan_layOut_0 43 rfl) rfl (Vn_in e_v5) (fun hc23 => ?_) (fun hc23 => ?_)
      · replace h := ifP h hc23
        refine vg_iconst (pc := 91) (dK D_Plan_layOut_0 49 rfl) ?_
        refine g_goto (pc := 92) (tgt := 96) (dK D_Plan_layOut_1 0 rfl) rfl ?_
        refine g_istore (pc := 96) (ls2 := [(4, V 1), (0, .ref c0), (1, V a1), (2, V a2), (3, V a3)]) (dK D_Plan_layOut_1 2 rfl) (ltK rfl) rfl ?_
        refine g_aloadn (pc := 98) (i0 := 0) (j := 1) (dK D_Plan_layOut_1 3 rfl) rfl rfl ?_
        refine vg_getA (pc := 99) (ci := 4) (f := 4) (dK D_Plan_layOut_1 4 rfl) q_316 hc0 (ltK rfl) (ltK rfl) rfl ?_
        refine g_iloadn (pc := 102) (i0 := 1) (j := 2) (dK D_Plan_layOut_1 5 rfl) rfl rfl ?_
        refine g_iloadn (pc := 103) (i0 := 2) (j := 3) (dK D_Plan_layOut_1 6 rfl) rfl rfl ?_
        refine gdE h (fun hi6 h => ?_)
        refine nmE h (fun S7 e_S7 h => ?_)
        refine vg_iastore (pc := 104) (z := a2) (dK D_Plan_layOut_1 7 rfl) (hw_4_4 hc0) rfl hi6 rfl e_S7 ?_
        refine g_aloadn (pc := 105) (i0 := 0) (j := 1) (dK D_Plan_layOut_1 8 rfl) rfl rfl ?_
        refine vg_getA (pc := 106) (ci := 4) (f := 3) (dK D_Plan_layOut_1 9 rfl) q_313 hc0 (ltK rfl) (ltK rfl) rfl ?_
        refine g_iloadn (pc := 109) (i0 := 1) (j := 2) (dK D_Plan_layOut_1 10 rfl) rfl rfl ?_
        refine vg_iconst (pc := 110) (dK D_Plan_layOut_1 11 rfl) ?_
        refine g_iloadn (pc := 111) (i0 := 2) (j := 3) (dK D_Plan_layOut_1 12 rfl) rfl rfl ?_
        refine vg_imul (pc := 112) (dK D_Plan_layOut_1 13 rfl) ?_
        refine g_iload (pc := 113) (j := 0) (dK D_Plan_layOut_1 14 rfl) rfl ?_
        refine vg_if_eq (pc := 115) (t := 122) (dK D_Plan_layOut_1 15 rfl) rfl (inRk rfl) (fun hc => absurd hc (by decide)) (fun _ => ?_)
        refine vg_iconst (pc := 118) (dK D_Plan_layOut_1 16 rfl) ?_
        refine g_goto (pc := 119) (tgt := 123) (dK D_Plan_layOut_1 17 rfl) rfl ?_
        refine vg_iadd (pc := 123) (dK D_Plan_layOut_1 19 rfl) ?_
        refine nmE h (fun S8 e_S8 h => ?_)
        refine vg_iastore (pc := 124) (z := ((2 * a2) + 0)) (dK D_Plan_layOut_1 20 rfl) (hw_4_3 hc0) rfl hi6 rfl e_S8 ?_
        refine nmE h (fun v9 e_v9 h => ?_)
        refine vg_iinc (pc := 125) (j := 2) (a := a1) (z := 1) (ls2 := [(1, V v9), (4, V 1), (0, .ref c0), (2, V a2), (3, V a3)]) (dK D_Plan_layOut_1 21 rfl) rfl e_v9 (ltK rfl) rfl ?_
        refine nmE h (fun v10 e_v10 h => ?_)
        refine vg_iinc (pc := 128) (j := 4) (a := a3) (z := 1) (ls2 := [(3, V v10), (1, V v9), (4, V 1), (0, .ref c0), (2, V a2)]) (dK D_Plan_layOut_1 22 rfl) rfl e_v10 (ltK rfl) rfl ?_
        refine g_goto (pc := 131) (tgt := 59) (dK D_Plan_layOut_1 23 rfl) rfl ?_
        refine gL_weak (ls' := [(0, .ref c0), (1, V v9), (2, V a2), (3, V v10)]) (sbc 3 rfl (sbc 1 rfl (sbc 4 rfl (sbc 0 rfl sbn)))) ?_
        replace h := ih _ h
        exact h (Vn_in e_v9) (Vn_in e_v10)
      · replace h := ifN h hc23
        refine g_iloadn (pc := 84) (i0 := 3) (j := 3) (dK D_Plan_layOut_0 44 rfl) rfl rfl ?_
        refine vg_iconst (pc := 85) (dK D_Plan_layOut_0 45 rfl) ?_
        refine vg_irem (pc := 86) (dK D_Plan_layOut_0 46 rfl) ha3 (inRk rfl) (by decide) ?_
        refine vg_iconst (pc := 87) (dK D_Plan_layOut_0 47 rfl) ?_
        refine nmE h (fun v11 e_v11 h => ?_)
        refine gsk (st' := [V 3, V v11]) (by rw [Vn e_v11]) ?_
        refine vg_icmp_ne (pc := 88) (t := 95) (dK D_Plan_layOut_0 48 rfl) rfl (Vn_in e_v11) (inRk rfl) (fun hc22 => ?_) (fun hc22 => ?_)
        · replace h := ifN h hc22
          refine vg_iconst (pc := 95) (dK D_Plan_layOut_1 1 rfl) ?_
          refine g_istore (pc := 96) (ls2 := [(4, V 0), (0, .ref c0), (1, V a1), (2, V a2), (3, V a3)]) (dK D_Plan_layOut_1 2 rfl) (ltK rfl) rfl ?_
          refine g_aloadn (pc := 98) (i0 := 0) (j := 1) (dK D_Plan_layOut_1 3 rfl) rfl rfl ?_
          refine vg_getA (pc := 99) (ci := 4) (f := 4) (dK D_Plan_layOut_1 4 rfl) q_316 hc0 (ltK rfl) (ltK rfl) rfl ?_
          refine g_iloadn (pc := 102) (i0 := 1) (j := 2) (dK D_Plan_layOut_1 5 rfl) rfl rfl ?_
          refine g_iloadn (pc := 103) (i0 := 2) (j := 3) (dK D_Plan_layOut_1 6 rfl) rfl rfl ?_
          refine gdE h (fun hi12 h => ?_)
          refine nmE h (fun S13 e_S13 h => ?_)
          refine vg_iastore (pc := 104) (z := a2) (dK D_Plan_layOut_1 7 rfl) (hw_4_4 hc0) rfl hi12 rfl e_S13 ?_
          refine g_aloadn (pc := 105) (i0 := 0) (j := 1) (dK D_Plan_layOut_1 8 rfl) rfl rfl ?_
          refine vg_getA (pc := 106) (ci := 4) (f := 3) (dK D_Plan_layOut_1 9 rfl) q_313 hc0 (ltK rfl) (ltK rfl) rfl ?_
          refine g_iloadn (pc := 109) (i0 := 1) (j := 2) (dK D_Plan_layOut_1 10 rfl) rfl rfl ?_
          refine vg_iconst (pc := 110) (dK D_Plan_layOut_1 11 rfl) ?_
          refine g_iloadn (pc := 111) (i0 := 2) (j := 3) (dK D_Plan_layOut_1 12 rfl) rfl rfl ?_
          refine vg_imul (pc := 112) (dK D_Plan_layOut_1 13 rfl) ?_
          refine g_iload (pc := 113) (j := 0) (dK D_Plan_layOut_1 14 rfl) rfl ?_
          refine vg_if_eq (pc := 115) (t := 122) (dK D_Plan_layOut_1 15 rfl) rfl (inRk rfl) (fun _ => ?_) (fun hc => absurd hc (by decide))
          refine vg_iconst (pc := 122) (dK D_Plan_layOut_1 18 rfl) ?_
          refine vg_iadd (pc := 123) (dK D_Plan_layOut_1 19 rfl) ?_
          refine nmE h (fun S14 e_S14 h => ?_)
          refine vg_iastore (pc := 124) (z := ((2 * a2) + 1)) (dK D_Plan_layOut_1 20 rfl) (hw_4_3 hc0) rfl hi12 rfl e_S14 ?_
          refine nmE h (fun v15 e_v15 h => ?_)
          refine vg_iinc (pc := 125) (j := 2) (a := a1) (z := 1) (ls2 := [(1, V v15), (4, V 0), (0, .ref c0), (2, V a2), (3, V a3)]) (dK D_Plan_layOut_1 21 rfl) rfl e_v15 (ltK rfl) rfl ?_
          refine nmE h (fun v16 e_v16 h => ?_)
          refine vg_iinc (pc := 128) (j := 4) (a := a3) (z := 1) (ls2 := [(3, V v16), (1, V v15), (4, V 0), (0, .ref c0), (2, V a2)]) (dK D_Plan_layOut_1 22 rfl) rfl e_v16 (ltK rfl) rfl ?_
          refine g_goto (pc := 131) (tgt := 59) (dK D_Plan_layOut_1 23 rfl) rfl ?_
          refine gL_weak (ls' := [(0, .ref c0), (1, V v15), (2, V a2), (3, V v16)]) (sbc 3 rfl (sbc 1 rfl (sbc 4 rfl (sbc 0 rfl sbn)))) ?_
          replace h := ih _ h
          exact h (Vn_in e_v15) (Vn_in e_v16)
        · replace h := ifP h hc22
          refine vg_iconst (pc := 91) (dK D_Plan_layOut_0 49 rfl) ?_
          refine g_goto (pc := 92) (tgt := 96) (dK D_Plan_layOut_1 0 rfl) rfl ?_
          refine g_istore (pc := 96) (ls2 := [(4, V 1), (0, .ref c0), (1, V a1), (2, V a2), (3, V a3)]) (dK D_Plan_layOut_1 2 rfl) (ltK rfl) rfl ?_
          refine g_aloadn (pc := 98) (i0 := 0) (j := 1) (dK D_Plan_layOut_1 3 rfl) rfl rfl ?_
          refine vg_getA (pc := 99) (ci := 4) (f := 4) (dK D_Plan_layOut_1 4 rfl) q_316 hc0 (ltK rfl) (ltK rfl) rfl ?_
          refine g_iloadn (pc := 102) (i0 := 1) (j := 2) (dK D_Plan_layOut_1 5 rfl) rfl rfl ?_
          refine g_iloadn (pc := 103) (i0 := 2) (j := 3) (dK D_Plan_layOut_1 6 rfl) rfl rfl ?_
          refine gdE h (fun hi17 h => ?_)
          refine nmE h (fun S18 e_S18 h => ?_)
          refine vg_iastore (pc := 104) (z := a2) (dK D_Plan_layOut_1 7 rfl) (hw_4_4 hc0) rfl hi17 rfl e_S18 ?_
          refine g_aloadn (pc := 105) (i0 := 0) (j := 1) (dK D_Plan_layOut_1 8 rfl) rfl rfl ?_
          refine vg_getA (pc := 106) (ci := 4) (f := 3) (dK D_Plan_layOut_1 9 rfl) q_313 hc0 (ltK rfl) (ltK rfl) rfl ?_
          refine g_iloadn (pc := 109) (i0 := 1) (j := 2) (dK D_Plan_layOut_1 10 rfl) rfl rfl ?_
          refine vg_iconst (pc := 110) (dK D_Plan_layOut_1 11 rfl) ?_
          refine g_iloadn (pc := 111) (i0 := 2) (j := 3) (dK D_Plan_layOut_1 12 rfl) rfl rfl ?_
          refine vg_imul (pc := 112) (dK D_Plan_layOut_1 13 rfl) ?_
          refine g_iload (pc := 113) (j := 0) (dK D_Plan_layOut_1 14 rfl) rfl ?_
          refine vg_if_eq (pc := 115) (t := 122) (dK D_Plan_layOut_1 15 rfl) rfl (inRk rfl) (fun hc => absurd hc (by decide)) (fun _ => ?_)
          refine vg_iconst (pc := 118) (dK D_Plan_layOut_1 16 rfl) ?_
          refine g_goto (pc := 119) (tgt := 123) (dK D_Plan_layOut_1 17 rfl) rfl ?_
          refine vg_iadd (pc := 123) (dK D_Plan_layOut_1 19 rfl) ?_
          refine nmE h (fun S19 e_S19 h => ?_)
          refine vg_iastore (pc := 124) (z := ((2 * a2) + 0)) (dK D_Plan_layOut_1 20 rfl) (hw_4_3 hc0) rfl hi17 rfl e_S19 ?_
          refine nmE h (fun v20 e_v20 h => ?_)
          refine vg_iinc (pc := 125) (j := 2) (a := a1) (z := 1) (ls2 := [(1, V v20), (4, V 1), (0, .ref c0), (2, V a2), (3, V a3)]) (dK D_Plan_layOut_1 21 rfl) rfl e_v20 (ltK rfl) rfl ?_
          refine nmE h (fun v21 e_v21 h => ?_)
          refine vg_iinc (pc := 128) (j := 4) (a := a3) (z := 1) (ls2 := [(3, V v21), (1, V v20), (4, V 1), (0, .ref c0), (2, V a2)]) (dK D_Plan_layOut_1 22 rfl) rfl e_v21 (ltK rfl) rfl ?_
          refine g_goto (pc := 131) (tgt := 59) (dK D_Plan_layOut_1 23 rfl) rfl ?_
          refine gL_weak (ls' := [(0, .ref c0), (1, V v20), (2, V a2), (3, V v21)]) (sbc 3 rfl (sbc 1 rfl (sbc 4 rfl (sbc 0 rfl sbn)))) ?_
          replace h := ih _ h
          exact h (Vn_in e_v20) (Vn_in e_v21)
def lb_Plan_layOut_46 (c0 : Nat) (go : Int × Int × St → Option (St)) (a1 : Int) (a2 : Int) (S : St) : Option (St) := if (g S (tgt c0 0) 4) ≤ a2 then (some S) else (bnO (lo_Plan_layOut_59 c0 a2 FU (a1, 0, S)) fun p26 => nm (wr (a2 + 1)) fun v27 => go (p26.1, v27, p26.2))
def lo_Plan_layOut_46 (c0 : Nat) : Nat → Int × Int × St → Option (St) := lp fun go p => lb_Plan_layOut_46 c0 go p.1 p.2.1 p.2.2
theorem tl_Plan_layOut_46 {E : EV} {X : XT} {c0 : Nat} (hc0 : HC X 4 c0) {K : RK → PS → Prop} {q : St} (hx : Go E M_Plan_layOut 0 0 140 [] [] (WX X q) 0 0 K) : ∀ n a, lo_Plan_layOut_46 c0 n a = some q → inR a.1 → inR a.2.1 → Go E M_Plan_layOut 0 0 46 [(0, .ref c0), (1, V a.1), (2, V a.2.1)] [] (WX X a.2.2) 0 0 K := by
  refine lp_ind (P := fun a : Int × Int × St => inR a.1 → inR a.2.1 → Go E M_Plan_layOut 0 0 46 [(0, .ref c0), (1, V a.1), (2, V a.2.1)] [] (WX X a.2.2) 0 0 K) (fun go ih a h => ?_)
  obtain ⟨a1, a2, S⟩ := a
  intro ha1 ha2
  show Go E M_Plan_layOut 0 0 46 [(0, .ref c0), (1, V a1), (2, V a2)] [] (WX X S) 0 0 K
  replace h : lb_Plan_layOut_46 c0 go a1 a2 S = some q := h
  unfold lb_Plan_layOut_46 at h
  refine g_iloadn (pc := 46) (i0 := 2) (j := 2) (dK D_Plan_layOut_0 24 rfl) rfl rfl ?_
  refine g_aloadn (pc := 47) (i0 := 0) (j := 0) (dK D_Plan_layOut_0 25 rfl) rfl rfl ?_
  refine vg_getO (pc := 48) (ci := 4) (f := 0) (dK D_Plan_layOut_0 26 rfl) q_301 hc0 (ltK rfl) (ltK rfl) rfl ?_
  refine vg_getI (pc := 51) (ci := 8) (f := 4) (dK D_Plan_layOut_0 27 rfl) q_250 (hw_4_0 hc0) (ltK rfl) (ltK rfl) rfl ?_
  refine vg_icmp_ge (pc := 54) (t := 140) (dK D_Plan_layOut_0 28 rfl) rfl ha2 (g_in _ _ _) (fun hc28 => ?_) (fun hc28 => ?_)
  · replace h := ifP h hc28
    obtain rfl := Option.some.inj h
    refine gL_weak (ls' := []) sbn ?_
    exact hx 
  · replace h := ifN h hc28
    refine vg_iconst (pc := 57) (dK D_Plan_layOut_0 29 rfl) ?_
    refine g_istoren (pc := 58) (i0 := 3) (ls2 := [(3, V 0), (0, .ref c0), (1, V a1), (2, V a2)]) (dK D_Plan_layOut_0 30 rfl) rfl (ltK rfl) rfl ?_
    refine bnE h (fun p26 e_p26 h => ?_)
    refine gL_weak (ls' := [(0, .ref c0), (1, V a1), (2, V a2), (3, V 0)]) (sbc 1 rfl (sbc 2 rfl (sbc 3 rfl (sbc 0 rfl sbn)))) ?_
    refine tl_Plan_layOut_59 hc0 ha2 (fun hx1_p26 => ?_) FU (a1, 0, S) e_p26 ha1 (inRk rfl)
    refine nmE h (fun v27 e_v27 h => ?_)
    refine vg_iinc (pc := 134) (j := 2) (a := a2) (z := 1) (ls2 := [(2, V v27), (0, .ref c0), (1, V p26.1)]) (dK D_Plan_layOut_1 24 rfl) rfl e_v27 (ltK rfl) rfl ?_
    refine g_goto (pc := 137) (tgt := 46) (dK D_Plan_layOut_1 25 rfl) rfl ?_
    refine gL_weak (ls' := [(0, .ref c0), (1, V p26.1), (2, V v27)]) (sbc 1 rfl (sbc 2 rfl (sbc 0 rfl sbn))) ?_
    replace h := ih _ h
    exact h hx1_p26 (Vn_in e_v27)
def fn_Plan_layOut (c0 : Nat) (S : St) : Option (St) := nm (wr ((g S (tgt c0 0) 4) * (g S (tgt c0 0) 5))) fun v1 => nm (u S c0 1 (i_min v1 64)) fun S2 => nm (wr (2 * (g S2 (tgt c0 0) 4))) fun v3 => nm (u S2 c0 2 (i_min v3 8)) fun S4 => bnO (lo_Plan_layOut_46 c0 FU (1, 0, S4)) fun p29 => some p29
theorem tf_Plan_layOut {E : EV} {X : XT} {c0 : Nat} (hc0 : HC X 4 c0) {S : St} {q : St} (h : fn_Plan_layOut c0 S = some q) : Ev E M_Plan_layOut [.ref c0] (WX X S) 0 0 (KU X q) := by
  refine Ev.of pn_Plan rfl (leK rfl) ?_
  show Go E M_Plan_layOut 0 0 0 [(0, .ref c0)] [] (WX X S) 0 0 (KU X q)
  unfold fn_Plan_layOut at h
  refine g_aloadn (pc := 0) (i0 := 0) (j := 0) (dK D_Plan_layOut_0 0 rfl) rfl rfl ?_
  refine g_aloadn (pc := 1) (i0 := 0) (j := 0) (dK D_Plan_layOut_0 1 rfl) rfl rfl ?_
  refine vg_getO (pc := 2) (ci := 4) (f := 0) (dK D_Plan_layOut_0 2 rfl) q_301 hc0 (ltK rfl) (ltK rfl) rfl ?_
  refine vg_getI (pc := 5) (ci := 8) (f := 4) (dK D_Plan_layOut_0 3 rfl) q_250 (hw_4_0 hc0) (ltK rfl) (ltK rfl) rfl ?_
  refine g_aloadn (pc := 8) (i0 := 0) (j := 0) (dK D_Plan_layOut_0 4 rfl) rfl rfl ?_
  refine vg_getO (pc := 9) (ci := 4) (f := 0) (dK D_Plan_layOut_0 5 rfl) q_301 hc0 (ltK rfl) (ltK rfl) rfl ?_
  refine vg_getI (pc := 12) (ci := 8) (f := 5) (dK D_Plan_layOut_0 6 rfl) q_253 (hw_4_0 hc0) (ltK rfl) (ltK rfl) rfl ?_
  refine vg_imul (pc := 15) (dK D_Plan_layOut_0 7 rfl) ?_
  refine vg_bipush (pc := 16) (dK D_Plan_layOut_0 8 rfl) rfl ?_
  refine nmE h (fun v1 e_v1 h => ?_)
  refine gsk (st' := [V 64, V v1, .ref c0]) (by rw [Vn e_v1]) ?_
  refine vg_mmin (pc := 18) (dK D_Plan_layOut_0 9 rfl) q_290 (leK rfl) (leK rfl) (leK rfl) (leK rfl) (Vn_in e_v1) (inRk rfl) ?_
  refine nmE h (fun S2 e_S2 h => ?_)
  refine vg_putI (pc := 21) (ci := 4) (f := 1) (z := (i_min v1 64)) (dK D_Plan_layOut_0 10 rfl) q_305 hc0 (ltK rfl) (ltK rfl) rfl rfl e_S2 ?_
  refine g_aloadn (pc := 24) (i0 := 0) (j := 0) (dK D_Plan_layOut_0 11 rfl) rfl rfl ?_
  refine vg_iconst (pc := 25) (dK D_Plan_layOut_0 12 rfl) ?_
  refine g_aloadn (pc := 26) (i0 := 0) (j := 0) (dK D_Plan_layOut_0 13 rfl) rfl rfl ?_
  refine vg_getO (pc := 27) (ci := 4) (f := 0) (dK D_Plan_layOut_0 14 rfl) q_301 hc0 (ltK rfl) (ltK rfl) rfl ?_
  refine vg_getI (pc := 30) (ci := 8) (f := 4) (dK D_Plan_layOut_0 15 rfl) q_250 (hw_4_0 hc0) (ltK rfl) (ltK rfl) rfl ?_
  refine vg_imul (pc := 33) (dK D_Plan_layOut_0 16 rfl) ?_
  refine vg_bipush (pc := 34) (dK D_Plan_layOut_0 17 rfl) rfl ?_
  refine nmE h (fun v3 e_v3 h => ?_)
  refine gsk (st' := [V 8, V v3, .ref c0]) (by rw [Vn e_v3]) ?_
  refine vg_mmin (pc := 36) (dK D_Plan_layOut_0 18 rfl) q_290 (leK rfl) (leK rfl) (leK rfl) (leK rfl) (Vn_in e_v3) (inRk rfl) ?_
  refine nmE h (fun S4 e_S4 h => ?_)
  refine vg_putI (pc := 39) (ci := 4) (f := 2) (z := (i_min v3 8)) (dK D_Plan_layOut_0 19 rfl) q_309 hc0 (ltK rfl) (ltK rfl) rfl rfl e_S4 ?_
  refine vg_iconst (pc := 42) (dK D_Plan_layOut_0 20 rfl) ?_
  refine g_istoren (pc := 43) (i0 := 1) (ls2 := [(1, V 1), (0, .ref c0)]) (dK D_Plan_layOut_0 21 rfl) rfl (ltK rfl) rfl ?_
  refine vg_iconst (pc := 44) (dK D_Plan_layOut_0 22 rfl) ?_
  refine g_istoren (pc := 45) (i0 := 2) (ls2 := [(2, V 0), (1, V 1), (0, .ref c0)]) (dK D_Plan_layOut_0 23 rfl) rfl (ltK rfl) rfl ?_
  refine bnE h (fun p29 e_p29 h => ?_)
  refine gL_weak (ls' := [(0, .ref c0), (1, V 1), (2, V 0)]) (sbc 2 rfl (sbc 1 rfl (sbc 0 rfl sbn))) ?_
  refine tl_Plan_layOut_46 hc0 ?_ FU (1, 0, S4) e_p29 (inRk rfl) (inRk rfl)
  exact g_return (pc := 140) (dK D_Plan_layOut_1 26 rfl) rfl (leK rfl) (leK rfl) (fun _ => rfl) (by obtain rfl := Option.some.inj h; exact ⟨rfl, rfl⟩)
def fn_Plan_hasPage (c0 : Nat) (a1 : Int) (S : St) : Option (Bool) := if a1 < 1 then (some false) else (if (g S c0 1) < a1 then (some false) else (some true))
theorem tf_Plan_hasPage {E : EV} {X : XT} {c0 : Nat} (hc0 : HC X 4 c0) {a1 : Int} (ha1 : inR a1) {S : St} {q : Bool} (h : fn_Plan_hasPage c0 a1 S = some q) : Ev E M_Plan_hasPage [.ref c0, V a1] (WX X S) 0 0 (KB X q S) := by
  refine Ev.of pn_Plan rfl (leK rfl) ?_
  show Go E M_Plan_hasPage 0 0 0 [(0, .ref c0), (1, V a1)] [] (WX X S) 0 0 (KB X q S)
  unfold fn_Plan_hasPage at h
  refine g_iloadn (pc := 0) (i0 := 1) (j := 1) (dK D_Plan_hasPage 0 rfl) rfl rfl ?_
  refine vg_iconst (pc := 1) (dK D_Plan_hasPage 1 rfl) ?_
  refine vg_icmp_lt (pc := 2) (t := 17) (dK D_Plan_hasPage 2 rfl) rfl ha1 (inRk rfl) (fun hc2 => ?_) (fun hc2 => ?_)
  · replace h := ifP h hc2
    refine vg_iconst (pc := 17) (dK D_Plan_hasPage 9 rfl) ?_
    exact vg_iretB (pc := 18) (b := false) (dK D_Plan_hasPage 10 rfl) rfl (leK rfl) (leK rfl) (fun _ => rfl) (by obtain rfl := Option.some.inj h; exact ⟨rfl, rfl⟩)
  · replace h := ifN h hc2
    refine g_iloadn (pc := 5) (i0 := 1) (j := 1) (dK D_Plan_hasPage 3 rfl) rfl rfl ?_
    refine g_aloadn (pc := 6) (i0 := 0) (j := 0) (dK D_Plan_hasPage 4 rfl) rfl rfl ?_
    refine vg_getI (pc := 7) (ci := 4) (f := 1) (dK D_Plan_hasPage 5 rfl) q_305 hc0 (ltK rfl) (ltK rfl) rfl ?_
    refine vg_icmp_gt (pc := 10) (t := 17) (dK D_Plan_hasPage 6 rfl) rfl ha1 (g_in _ _ _) (fun hc1 => ?_) (fun hc1 => ?_)
    · replace h := ifP h hc1
      refine vg_iconst (pc := 17) (dK D_Plan_hasPage 9 rfl) ?_
      exact vg_iretB (pc := 18) (b := false) (dK D_Plan_hasPage 10 rfl) rfl (leK rfl) (leK rfl) (fun _ => rfl) (by obtain rfl := Option.some.inj h; exact ⟨rfl, rfl⟩)
    · replace h := ifN h hc1
      refine vg_iconst (pc := 13) (dK D_Plan_hasPage 7 rfl) ?_
      refine g_goto (pc := 14) (tgt := 18) (dK D_Plan_hasPage 8 rfl) rfl ?_
      exact vg_iretB (pc := 18) (b := true) (dK D_Plan_hasPage 10 rfl) rfl (leK rfl) (leK rfl) (fun _ => rfl) (by obtain rfl := Option.some.inj h; exact ⟨rfl, rfl⟩)
def lb_Plan_recount_34 (c0 : Nat) (c1 : Nat) (go : Int × St → Option (St)) (a2 : Int) (S : St) : Option (St) := if (g S c1 7) ≤ a2 then (some S) else (if 0 ≤ a2 ∧ a2 < 40 then (bnO (fn_Plan_hasPage c0 (g S (tgt c1 6) a2.toNat) S) fun p5 => if p5 = true then (if 0 ≤ (g S (tgt c1 6) a2.toNat) ∧ (g S (tgt c1 6) a2.toNat) < 65 then (nm (u S (tgt c0 5) (((g S (tgt c1 6) a2.toNat)).toNat) ((g S (tgt c0 5) (((g S (tgt c1 6) a2.toNat)).toNat)) - (g S (tgt c1 0) a2.toNat))) fun S9 => if 0 ≤ (((g S9 (tgt c1 1) a2.toNat) * 33) + ((g S (tgt c1 6) a2.toNat).tdiv 2)) ∧ (((g S9 (tgt c1 1) a2.toNat) * 33) + ((g S (tgt c1 6) a2.toNat).tdiv 2)) < 330 then (nm (u S9 (tgt c0 7) (((((g S9 (tgt c1 1) a2.toNat) * 33) + ((g S (tgt c1 6) a2.toNat).tdiv 2))).toNat) ((g S9 (tgt c0 7) (((((g S9 (tgt c1 1) a2.toNat) * 33) + ((g S (tgt c1 6) a2.toNat).tdiv 2))).toNat)) + 1)) fun S11 => nm (wr (a2 + 1)) fun v12 => go (v12, S11)) else none) else none) else (nm (wr (a2 + 1)) fun v7 => go (v7, S))) else none)
def lo_Plan_recount_34 (c0 : Nat) (c1 : Nat) : Nat → Int × St → Option (St) := lp fun go p => lb_Plan_recount_34 c0 c1 go p.1 p.2
theorem tl_Plan_recount_34 {E : EV} {X : XT} {c0 : Nat} (hc0 : HC X 4 c0) {c1 : Nat} (hc1 : HC X 0 c1) {K : RK → PS → Prop} {q : St} (hx : Go E M_Plan_recount 0 0 100 [(0, .ref c0)] [] (WX X q) 0 0 K) : ∀ n a, lo_Plan_recount_34 c0 c1 n a = some q → inR a.1 → Go E M_Plan_recount 0 0 34 [(0, .ref c0), (1, .ref c1), (2, V a.1)] [] (WX X a.2) 0 0 K := by
  refine lp_ind (P := fun a : Int × St => inR a.1 → Go E M_Plan_recount 0 0 34 [(0, .ref c0), (1, .ref c1), (2, V a.1)] [] (WX X a.2) 0 0 K) (fun go ih a h => ?_)
  obtain ⟨a2, S⟩ := a
  intro ha2
  show Go E M_Plan_recount 0 0 34 [(0, .ref c0), (1, .ref c1), (2, V a2)] [] (WX X S) 0 0 K
  replace h : lb_Plan_recount_34 c0 c1 go a2 S = some q := h
  unfold lb_Plan_recount_34 at h
  refine g_iloadn (pc := 34) (i0 := 2) (j := 2) (dK D_Plan_recount_0 18 rfl) rfl rfl ?_
  refine g_aloadn (pc := 35) (i0 := 1) (j := 1) (dK D_Plan_recount_0 19 rfl) rfl rfl ?_
  refine vg_getI (pc := 36) (ci := 0) (f := 7) (dK D_Plan_recount_0 20 rfl) q_118 hc1 (ltK rfl) (ltK rfl) rfl ?_
  refine vg_icmp_ge (pc := 39) (t := 100) (dK D_Plan_recount_0 21 rfl) rfl ha2 (g_in _ _ _) (fun hc13 => ?_) (fun hc13 => ?_)
  · replace h := ifP h hc13
    obtain rfl := Option.some.inj h
    refine gL_weak (ls' := [(0, .ref c0)]) (sbc 0 rfl sbn) ?_
    exact hx 
  · replace h := ifN h hc13
    refine g_aloadn (pc := 42) (i0 := 1) (j := 1) (dK D_Plan_recount_0 22 rfl) rfl rfl ?_
    refine vg_getA (pc := 43) (ci := 0) (f := 6) (dK D_Plan_recount_0 23 rfl) q_113 hc1 (ltK rfl) (ltK rfl) rfl ?_
    refine g_iloadn (pc := 46) (i0 := 2) (j := 2) (dK D_Plan_recount_0 24 rfl) rfl rfl ?_
    refine gdE h (fun hi4 h => ?_)
    refine vg_iaload (pc := 47) (j := a2.toNat) (dK D_Plan_recount_0 25 rfl) (hw_0_6 hc1) rfl hi4 rfl ?_
    refine g_istoren (pc := 48) (i0 := 3) (ls2 := [(3, V (g S (tgt c1 6) a2.toNat)), (0, .ref c0), (1, .ref c1), (2, V a2)]) (dK D_Plan_recount_0 26 rfl) rfl (ltK rfl) rfl ?_
    refine g_aloadn (pc := 49) (i0 := 0) (j := 1) (dK D_Plan_recount_0 27 rfl) rfl rfl ?_
    refine g_iloadn (pc := 50) (i0 := 3) (j := 0) (dK D_Plan_recount_0 28 rfl) rfl rfl ?_
    refine bnE h (fun p5 e_p5 h => ?_)
    refine vg_cV (pc := 51) (As := [V (g S (tgt c1 6) a2.toNat)]) (rest := []) (mc' := 0) (ms' := 0) (dK D_Plan_recount_0 29 rfl) K_Plan_119 (fitK rfl) (ltK rfl) hc0 rfl (leK rfl) (leK rfl) (leK rfl) (tf_Plan_hasPage hc0 (g_in _ _ _) e_p5) (kcB ?_)
    refine vg_ifB_eq (pc := 54) (b := p5) (t := 94) (dK D_Plan_recount_0 30 rfl) rfl (fun hc6 => ?_) (fun hc6 => ?_)
    · replace h := ifP h hc6
      refine g_aloadn (pc := 57) (i0 := 0) (j := 1) (dK D_Plan_recount_0 31 rfl) rfl rfl ?_
      refine vg_getA (pc := 58) (ci := 4) (f := 5) (dK D_Plan_recount_0 32 rfl) q_318 hc0 (ltK rfl) (ltK rfl) rfl ?_
      refine g_iloadn (pc := 61) (i0 := 3) (j := 0) (dK D_Plan_recount_0 33 rfl) rfl rfl ?_
      refine g_dup2 (pc := 62) (dK D_Plan_recount_0 34 rfl) rfl rfl ?_
      refine gdE h (fun hi8 h => ?_)
      refine vg_iaload (pc := 63) (j := ((g S (tgt c1 6) a2.toNat)).toNat) (dK D_Plan_recount_0 35 rfl) (hw_4_5 hc0) rfl hi8 rfl ?_
      refine g_aloadn (pc := 64) (i0 := 1) (j := 2) (dK D_Plan_recount_0 36 rfl) rfl rfl ?_
      refine vg_getA (pc := 65) (ci := 0) (f := 0) (dK D_Plan_recount_0 37 rfl) q_89 hc1 (ltK rfl) (ltK rfl) rfl ?_
      refine g_iloadn (pc := 68) (i0 := 2) (j := 3) (dK D_Plan_recount_0 38 rfl) rfl rfl ?_
      refine vg_iaload (pc := 69) (j := a2.toNat) (dK D_Plan_recount_0 39 rfl) (hw_0_0 hc1) rfl hi4 rfl ?_
      refine vg_isub (pc := 70) (dK D_Plan_recount_0 40 rfl) ?_
      refine nmE h (fun S9 e_S9 h => ?_)
      refine vg_iastore (pc := 71) (z := ((g S (tgt c0 5) (((g S (tgt c1 6) a2.toNat)).toNat)) - (g S (tgt c1 0) a2.toNat))) (dK D_Plan_recount_0 41 rfl) (hw_4_5 hc0) rfl hi8 rfl e_S9 ?_
      refine g_aloadn (pc := 72) (i0 := 0) (j := 1) (dK D_Plan_recount_0 42 rfl) rfl rfl ?_
      refine vg_getA (pc := 73) (ci := 4) (f := 7) (dK D_Plan_recount_0 43 rfl) q_323 hc0 (ltK rfl) (ltK rfl) rfl ?_
      refine g_aloadn (pc := 76) (i0 := 1) (j := 2) (dK D_Plan_recount_0 44 rfl) rfl rfl ?_
      refine vg_getA (pc := 77) (ci := 0) (f := 1) (dK D_Plan_recount_0 45 rfl) q_92 hc1 (ltK rfl) (ltK rfl) rfl ?_
      refine g_iloadn (pc := 80) (i0 := 2) (j := 3) (dK D_Plan_recount_0 46 rfl) rfl rfl ?_
      refine vg_iaload (pc := 81) (j := a2.toNat) (dK D_Plan_recount_0 47 rfl) (hw_0_1 hc1) rfl hi4 rfl ?_
      refine vg_bipush (pc := 82) (dK D_Plan_recount_0 48 rfl) rfl ?_
      refine vg_imul (pc := 84) (dK D_Plan_recount_0 49 rfl) ?_
      refine g_iloadn (pc := 85) (i0 := 3) (j := 0) (dK D_Plan_recount_1 0 rfl) rfl rfl ?_
      refine vg_iconst (pc := 86) (dK D_Plan_recount_1 1 rfl) ?_
      refine vg_idiv (pc := 87) (dK D_Plan_recount_1 2 rfl) (g_in _ _ _) (inRk rfl) (by decide) ?_
      refine vg_iadd (pc := 88) (dK D_Plan_recount_1 3 rfl) ?_
      refine g_dup2 (pc := 89) (dK D_Plan_recount_1 4 rfl) rfl rfl ?_
      refine gdE h (fun hi10 h => ?_)
      refine vg_iaload (pc := 90) (j := ((((g S9 (tgt c1 1) a2.toNat) * 33) + ((g S (tgt c1 6) a2.toNat).tdiv 2))).toNat) (dK D_Plan_recount_1 5 rfl) (hw_4_7 hc0) rfl hi10 rfl ?_
      refine vg_iconst (pc := 91) (dK D_Plan_recount_1 6 rfl) ?_
      refine vg_iadd (pc := 92) (dK D_Plan_recount_1 7 rfl) ?_
      refine nmE h (fun S11 e_S11 h => ?_)
      refine vg_iastore (pc := 93) (z := ((g S9 (tgt c0 7) (((((g S9 (tgt c1 1) a2.toNat) * 33) + ((g S (tgt c1 6) a2.toNat).tdiv 2))).toNat)) + 1)) (dK D_Plan_recount_1 8 rfl) (hw_4_7 hc0) rfl hi10 rfl e_S11 ?_
      refine nmE h (fun v12 e_v12 h => ?_)
      refine vg_iinc (pc := 94) (j := 3) (a := a2) (z := 1) (ls2 := [(2, V v12), (3, V (g S (tgt c1 6) a2.toNat)), (0, .ref c0), (1, .ref c1)]) (dK D_Plan_recount_1 9 rfl) rfl e_v12 (ltK rfl) rfl ?_
      refine g_goto (pc := 97) (tgt := 34) (dK D_Plan_recount_1 10 rfl) rfl ?_
      refine gL_weak (ls' := [(0, .ref c0), (1, .ref c1), (2, V v12)]) (sbc 2 rfl (sbc 3 rfl (sbc 0 rfl sbn))) ?_
      replace h := ih _ h
      exact h (Vn_in e_v12)
    · replace h := ifN h hc6
      refine nmE h (fun v7 e_v7 h => ?_)
      refine vg_iinc (pc := 94) (j := 3) (a := a2) (z := 1) (ls2 := [(2, V v7), (3, V (g S (tgt c1 6) a2.toNat)), (0, .ref c0), (1, .ref c1)]) (dK D_Plan_recount_1 9 rfl) rfl e_v7 (ltK rfl) rfl ?_
      refine g_goto (pc := 97) (tgt := 34) (dK D_Plan_recount_1 10 rfl) rfl ?_
      refine gL_weak (ls' := [(0, .ref c0), (1, .ref c1), (2, V v7)]) (sbc 2 rfl (sbc 3 rfl (sbc 0 rfl sbn))) ?_
      replace h := ih _ h
      exact h (Vn_in e_v7)
def lb_Plan_recount_110 (c0 : Nat) (c2 : Nat) (go : Int × St → Option (St)) (a3 : Int) (S : St) : Option (St) := if (g S c2 2) ≤ a3 then (some S) else (if 0 ≤ a3 ∧ a3 < 8 then (bnO (fn_Plan_hasPage c0 (g S (tgt c2 1) a3.toNat) S) fun p16 => if p16 = true then (if 0 ≤ (g S (tgt c2 1) a3.toNat) ∧ (g S (tgt c2 1) a3.toNat) < 65 then (nm (u S (tgt c0 5) (((g S (tgt c2 1) a3.toNat)).toNat) ((g S (tgt c0 5) (((g S (tgt c2 1) a3.toNat)).toNat)) - (g S (tgt c2 0) a3.toNat))) fun S20 => nm (wr (a3 + 1)) fun v21 => go (v21, S20)) else none) else (nm (wr (a3 + 1)) fun v18 => go (v18, S))) else none)
def lo_Plan_recount_110 (c0 : Nat) (c2 : Nat) : Nat → Int × St → Option (St) := lp fun go p => lb_Plan_recount_110 c0 c2 go p.1 p.2
theorem tl_Plan_recount_110 {E : EV} {X : XT} {c0 : Nat} (hc0 : HC X 4 c0) {c2 : Nat} (hc2 : HC X 7 c2) {K : RK → PS → Prop} {q : St} (hx : Go E M_Plan_recount 0 0 157 [(0, .ref c0)] [] (WX X q) 0 0 K) : ∀ n a, lo_Plan_recount_110 c0 c2 n a = some q → inR a.1 → Go E M_Plan_recount 0 0 110 [(0, .ref c0), (2, .ref c2), (3, V a.1)] [] (WX X a.2) 0 0 K := by
  refine lp_ind (P := fun a : Int × St => inR a.1 → Go E M_Plan_recount 0 0 110 [(0, .ref c0), (2, .ref c2), (3, V a.1)] [] (WX X a.2) 0 0 K) (fun go ih a h => ?_)
  obtain ⟨a3, S⟩ := a
  intro ha3
  show Go E M_Plan_recount 0 0 110 [(0, .ref c0), (2, .ref c2), (3, V a3)] [] (WX X S) 0 0 K
  replace h : lb_Plan_recount_110 c0 c2 go a3 S = some q := h
  unfold lb_Plan_recount_110 at h
  refine g_iloadn (pc := 110) (i0 := 3) (j := 2) (dK D_Plan_recount_1 17 rfl) rfl rfl ?_
  refine g_aloadn (pc := 111) (i0 := 2) (j := 1) (dK D_Plan_recount_1 18 rfl) rfl rfl ?_
  refine vg_getI (pc := 112) (ci := 7) (f := 2) (dK D_Plan_recount_1 19 rfl) q_195 hc2 (ltK rfl) (ltK rfl) rfl ?_
  refine vg_icmp_ge (pc := 115) (t := 157) (dK D_Plan_recount_1 20 rfl) rfl ha3 (g_in _ _ _) (fun hc22 => ?_) (fun hc22 => ?_)
  · replace h := ifP h hc22
    obtain rfl := Option.some.inj h
    refine gL_weak (ls' := [(0, .ref c0)]) (sbc 0 rfl sbn) ?_
    exact hx 
  · replace h := ifN h hc22
    refine g_aloadn (pc := 118) (i0 := 2) (j := 1) (dK D_Plan_recount_1 21 rfl) rfl rfl ?_
    refine vg_getA (pc := 119) (ci := 7) (f := 1) (dK D_Plan_recount_1 22 rfl) q_192 hc2 (ltK rfl) (ltK rfl) rfl ?_
    refine g_iloadn (pc := 122) (i0 := 3) (j := 2) (dK D_Plan_recount_1 23 rfl) rfl rfl ?_
    refine gdE h (fun hi15 h => ?_)
    refine vg_iaload (pc := 123) (j := a3.toNat) (dK D_Plan_recount_1 24 rfl) (hw_7_1 hc2) rfl hi15 rfl ?_
    refine g_istore (pc := 124) (ls2 := [(4, V (g S (tgt c2 1) a3.toNat)), (0, .ref c0), (2, .ref c2), (3, V a3)]) (dK D_Plan_recount_1 25 rfl) (ltK rfl) rfl ?_
    refine g_aloadn (pc := 126) (i0 := 0) (j := 1) (dK D_Plan_recount_1 26 rfl) rfl rfl ?_
    refine g_iload (pc := 127) (j := 0) (dK D_Plan_recount_1 27 rfl) rfl ?_
    refine bnE h (fun p16 e_p16 h => ?_)
    refine vg_cV (pc := 129) (As := [V (g S (tgt c2 1) a3.toNat)]) (rest := []) (mc' := 0) (ms' := 0) (dK D_Plan_recount_1 28 rfl) K_Plan_119 (fitK rfl) (ltK rfl) hc0 rfl (leK rfl) (leK rfl) (leK rfl) (tf_Plan_hasPage hc0 (g_in _ _ _) e_p16) (kcB ?_)
    refine vg_ifB_eq (pc := 132) (b := p16) (t := 151) (dK D_Plan_recount_1 29 rfl) rfl (fun hc17 => ?_) (fun hc17 => ?_)
    · replace h := ifP h hc17
      refine g_aloadn (pc := 135) (i0 := 0) (j := 1) (dK D_Plan_recount_1 30 rfl) rfl rfl ?_
      refine vg_getA (pc := 136) (ci := 4) (f := 5) (dK D_Plan_recount_1 31 rfl) q_318 hc0 (ltK rfl) (ltK rfl) rfl ?_
      refine g_iload (pc := 139) (j := 0) (dK D_Plan_recount_1 32 rfl) rfl ?_
      refine g_dup2 (pc := 141) (dK D_Plan_recount_1 33 rfl) rfl rfl ?_
      refine gdE h (fun hi19 h => ?_)
      refine vg_iaload (pc := 142) (j := ((g S (tgt c2 1) a3.toNat)).toNat) (dK D_Plan_recount_1 34 rfl) (hw_4_5 hc0) rfl hi19 rfl ?_
      refine g_aloadn (pc := 143) (i0 := 2) (j := 2) (dK D_Plan_recount_1 35 rfl) rfl rfl ?_
      refine vg_getA (pc := 144) (ci := 7) (f := 0) (dK D_Plan_recount_1 36 rfl) q_189 hc2 (ltK rfl) (ltK rfl) rfl ?_
      refine g_iloadn (pc := 147) (i0 := 3) (j := 3) (dK D_Plan_recount_1 37 rfl) rfl rfl ?_
      refine vg_iaload (pc := 148) (j := a3.toNat) (dK D_Plan_recount_1 38 rfl) (hw_7_0 hc2) rfl hi15 rfl ?_
      refine vg_isub (pc := 149) (dK D_Plan_recount_1 39 rfl) ?_
      refine nmE h (fun S20 e_S20 h => ?_)
      refine vg_iastore (pc := 150) (z := ((g S (tgt c0 5) (((g S (tgt c2 1) a3.toNat)).toNat)) - (g S (tgt c2 0) a3.toNat))) (dK D_Plan_recount_1 40 rfl) (hw_4_5 hc0) rfl hi19 rfl e_S20 ?_
      refine nmE h (fun v21 e_v21 h => ?_)
      refine vg_iinc (pc := 151) (j := 3) (a := a3) (z := 1) (ls2 := [(3, V v21), (4, V (g S (tgt c2 1) a3.toNat)), (0, .ref c0), (2, .ref c2)]) (dK D_Plan_recount_1 41 rfl) rfl e_v21 (ltK rfl) rfl ?_
      refine g_goto (pc := 154) (tgt := 110) (dK D_Plan_recount_1 42 rfl) rfl ?_
      refine gL_weak (ls' := [(0, .ref c0), (2, .ref c2), (3, V v21)]) (sbc 2 rfl (sbc 3 rfl (sbc 0 rfl sbn))) ?_
      replace h := ih _ h
      exact h (Vn_in e_v21)
    · replace h := ifN h hc17
      refine nmE h (fun v18 e_v18 h => ?_)
      refine vg_iinc (pc := 151) (j := 3) (a := a3) (z := 1) (ls2 := [(3, V v18), (4, V (g S (tgt c2 1) a3.toNat)), (0, .ref c0), (2, .ref c2)]) (dK D_Plan_recount_1 41 rfl) rfl e_v18 (ltK rfl) rfl ?_
      refine g_goto (pc := 154) (tgt := 110) (dK D_Plan_recount_1 42 rfl) rfl ?_
      refine gL_weak (ls' := [(0, .ref c0), (2, .ref c2), (3, V v18)]) (sbc 2 rfl (sbc 3 rfl (sbc 0 rfl sbn))) ?_
      replace h := ih _ h
      exact h (Vn_in e_v18)
def lb_Plan_recount_224 (c0 : Nat) (c3 : Nat) (a4 : Int) (a6 : Int) (go : Int × St → Option (St)) (a7 : Int) (S : St) : Option (St) := if a6 ≤ a7 then (some S) else (if 0 ≤ a7 ∧ a7 < 65 then (nm (u S (tgt c0 5) a7.toNat 0) fun S28 => nm (u S28 (tgt c0 6) a7.toNat a4) fun S29 => nm (wr (a7 + 1)) fun v30 => go (v30, S29)) else none)
def lo_Plan_recount_224 (c0 : Nat) (c3 : Nat) (a4 : Int) (a6 : Int) : Nat → Int × St → Option (St) := lp fun go p => lb_Plan_recount_224 c0 c3 a4 a6 go p.1 p.2
theorem tl_Plan_recount_224 {E : EV} {X : XT} {c0 : Nat} (hc0 : HC X 4 c0) {c3 : Nat} (hc3 : HC X 9 c3) {a4 : Int} (ha4 : inR a4) {a6 : Int} (ha6 : inR a6) {K : RK → PS → Prop} {q : St} (hx : Go E M_Plan_recount 0 0 254 [(0, .ref c0), (3, .ref c3), (4, V a4)] [] (WX X q) 0 0 K) : ∀ n a, lo_Plan_recount_224 c0 c3 a4 a6 n a = some q → inR a.1 → Go E M_Plan_recount 0 0 224 [(0, .ref c0), (3, .ref c3), (4, V a4), (6, V a6), (7, V a.1)] [] (WX X a.2) 0 0 K := by
  refine lp_ind (P := fun a : Int × St => inR a.1 → Go E M_Plan_recount 0 0 224 [(0, .ref c0), (3, .ref c3), (4, V a4), (6, V a6), (7, V a.1)] [] (WX X a.2) 0 0 K) (fun go ih a h => ?_)
  obtain ⟨a7, S⟩ := a
  intro ha7
  show Go E M_Plan_recount 0 0 224 [(0, .ref c0), (3, .ref c3), (4, V a4), (6, V a6), (7, V a7)] [] (WX X S) 0 0 K
  replace h : lb_Plan_recount_224 c0 c3 a4 a6 go a7 S = some q := h
  unfold lb_Plan_recount_224 at h
  refine g_iload (pc := 224) (j := 4) (dK D_Plan_recount_2 28 rfl) rfl ?_
  refine g_iload (pc := 226) (j := 3) (dK D_Plan_recount_2 29 rfl) rfl ?_
  refine vg_icmp_ge (pc := 228) (t := 254) (dK D_Plan_recount_2 30 rfl) rfl ha7 ha6 (fun hc31 => ?_) (fun hc31 => ?_)
  · replace h := ifP h hc31
    obtain rfl := Option.some.inj h
    refine gL_weak (ls' := [(0, .ref c0), (3, .ref c3), (4, V a4)]) (sbc 0 rfl (sbc 1 rfl (sbc 2 rfl sbn))) ?_
    exact hx 
  · replace h := ifN h hc31
    refine g_aloadn (pc := 231) (i0 := 0) (j := 0) (dK D_Plan_recount_2 31 rfl) rfl rfl ?_
    refine vg_getA (pc := 232) (ci := 4) (f := 5) (dK D_Plan_recount_2 32 rfl) q_318 hc0 (ltK rfl) (ltK rfl) rfl ?_
    refine g_iload (pc := 235) (j := 4) (dK D_Plan_recount_2 33 rfl) rfl ?_
    refine vg_iconst (pc := 237) (dK D_Plan_recount_2 34 rfl) ?_
    refine gdE h (fun hi27 h => ?_)
    refine nmE h (fun S28 e_S28 h => ?_)
    refine vg_iastore (pc := 238) (z := 0) (dK D_Plan_recount_2 35 rfl) (hw_4_5 hc0) rfl hi27 rfl e_S28 ?_
    refine g_aloadn (pc := 239) (i0 := 0) (j := 0) (dK D_Plan_recount_2 36 rfl) rfl rfl ?_
    refine vg_getA (pc := 240) (ci := 4) (f := 6) (dK D_Plan_recount_2 37 rfl) q_320 hc0 (ltK rfl) (ltK rfl) rfl ?_
    refine g_iload (pc := 243) (j := 4) (dK D_Plan_recount_2 38 rfl) rfl ?_
    refine g_iload (pc := 245) (j := 2) (dK D_Plan_recount_2 39 rfl) rfl ?_
    refine nmE h (fun S29 e_S29 h => ?_)
    refine vg_iastore (pc := 247) (z := a4) (dK D_Plan_recount_2 40 rfl) (hw_4_6 hc0) rfl hi27 rfl e_S29 ?_
    refine nmE h (fun v30 e_v30 h => ?_)
    refine vg_iinc (pc := 248) (j := 4) (a := a7) (z := 1) (ls2 := [(7, V v30), (0, .ref c0), (3, .ref c3), (4, V a4), (6, V a6)]) (dK D_Plan_recount_2 41 rfl) rfl e_v30 (ltK rfl) rfl ?_
    refine g_goto (pc := 251) (tgt := 224) (dK D_Plan_recount_2 42 rfl) rfl ?_
    refine gL_weak (ls' := [(0, .ref c0), (3, .ref c3), (4, V a4), (6, V a6), (7, V v30)]) (sbc 1 rfl (sbc 2 rfl (sbc 3 rfl (sbc 4 rfl (sbc 0 rfl sbn))))) ?_
    replace h := ih _ h
    exact h (Vn_in e_v30)
def lb_Plan_recount_168 (c0 : Nat) (c3 : Nat) (go : Int × St → Option (St)) (a4 : Int) (S : St) : Option (St) := if (g S c3 5) ≤ a4 then (some S) else (if 0 ≤ a4 ∧ a4 < 10 then (bnO (fn_Plan_hasPage c0 (g S (tgt c3 4) a4.toNat) S) fun p25 => if p25 = true then (nm (wr ((g S c0 1) + 1)) fun v34 => nm (wr ((g S (tgt c3 4) a4.toNat) + (g S (tgt c3 0) a4.toNat))) fun v35 => bnO (lo_Plan_recount_224 c0 c3 a4 (i_min v35 v34) FU ((g S (tgt c3 4) a4.toNat), S)) fun p36 => nm (wr (a4 + 1)) fun v37 => go (v37, p36)) else (bnO (lo_Plan_recount_224 c0 c3 a4 0 FU ((g S (tgt c3 4) a4.toNat), S)) fun p32 => nm (wr (a4 + 1)) fun v33 => go (v33, p32))) else none)
def lo_Plan_recount_168 (c0 : Nat) (c3 : Nat) : Nat → Int × St → Option (St) := lp fun go p => lb_Plan_recount_168 c0 c3 go p.1 p.2
theorem tl_Plan_recount_168 {E : EV} {X : XT} {c0 : Nat} (hc0 : HC X 4 c0) {c3 : Nat} (hc3 : HC X 9 c3) {K : RK → PS → Prop} {q : St} (hx : Go E M_Plan_recount 0 0 260 [] [] (WX X q) 0 0 K) : ∀ n a, lo_Plan_recount_168 c0 c3 n a = some q → inR a.1 → Go E M_Plan_recount 0 0 168 [(0, .ref c0), (3, .ref c3), (4, V a.1)] [] (WX X a.2) 0 0 K := by
  refine lp_ind (P := fun a : Int × St => inR a.1 → Go E M_Plan_recount 0 0 168 [(0, .ref c0), (3, .ref c3), (4, V a.1)] [] (WX X a.2) 0 0 K) (fun go ih a h => ?_)
  obtain ⟨a4, S⟩ := a
  intro ha4
  show Go E M_Plan_recount 0 0 168 [(0, .ref c0), (3, .ref c3), (4, V a4)] [] (WX X S) 0 0 K
  replace h : lb_Plan_recount_168 c0 c3 go a4 S = some q := h
  unfold lb_Plan_recount_168 at h
  refine g_iload (pc := 168) (j := 2) (dK D_Plan_recount_1 49 rfl) rfl ?_
  refine g_aloadn (pc := 170) (i0 := 3) (j := 1) (dK D_Plan_recount_2 0 rfl) rfl rfl ?_
  refine vg_getI (pc := 171) (ci := 9) (f := 5) (dK D_Plan_recount_2 1 rfl) q_165 hc3 (ltK rfl) (ltK rfl) rfl ?_
  refine vg_icmp_ge (pc := 174) (t := 260) (dK D_Plan_recount_2 2 rfl) rfl ha4 (g_in _ _ _) (fun hc38 => ?_) (fun hc38 => ?_)
  · replace h := ifP h hc38
    obtain rfl := Option.some.inj h
    refine gL_weak (ls' := []) sbn ?_
    exact hx 
  · replace h := ifN h hc38
    refine g_aloadn (pc := 177) (i0 := 3) (j := 1) (dK D_Plan_recount_2 3 rfl) rfl rfl ?_
    refine vg_getA (pc := 178) (ci := 9) (f := 4) (dK D_Plan_recount_2 4 rfl) q_161 hc3 (ltK rfl) (ltK rfl) rfl ?_
    refine g_iload (pc := 181) (j := 2) (dK D_Plan_recount_2 5 rfl) rfl ?_
    refine gdE h (fun hi24 h => ?_)
    refine vg_iaload (pc := 183) (j := a4.toNat) (dK D_Plan_recount_2 6 rfl) (hw_9_4 hc3) rfl hi24 rfl ?_
    refine g_istore (pc := 184) (ls2 := [(5, V (g S (tgt c3 4) a4.toNat)), (0, .ref c0), (3, .ref c3), (4, V a4)]) (dK D_Plan_recount_2 7 rfl) (ltK rfl) rfl ?_
    refine g_aloadn (pc := 186) (i0 := 0) (j := 1) (dK D_Plan_recount_2 8 rfl) rfl rfl ?_
    refine g_iload (pc := 187) (j := 0) (dK D_Plan_recount_2 9 rfl) rfl ?_
    refine bnE h (fun p25 e_p25 h => ?_)
    refine vg_cV (pc := 189) (As := [V (g S (tgt c3 4) a4.toNat)]) (rest := []) (mc' := 0) (ms' := 0) (dK D_Plan_recount_2 10 rfl) K_Plan_119 (fitK rfl) (ltK rfl) hc0 rfl (leK rfl) (leK rfl) (leK rfl) (tf_Plan_hasPage hc0 (g_in _ _ _) e_p25) (kcB ?_)
    refine vg_ifB_eq (pc := 192) (b := p25) (t := 217) (dK D_Plan_recount_2 11 rfl) rfl (fun hc26 => ?_) (fun hc26 => ?_)
    · replace h := ifP h hc26
      refine g_iload (pc := 195) (j := 0) (dK D_Plan_recount_2 12 rfl) rfl ?_
      refine g_aloadn (pc := 197) (i0 := 3) (j := 2) (dK D_Plan_recount_2 13 rfl) rfl rfl ?_
      refine vg_getA (pc := 198) (ci := 9) (f := 0) (dK D_Plan_recount_2 14 rfl) q_146 hc3 (ltK rfl) (ltK rfl) rfl ?_
      refine g_iload (pc := 201) (j := 3) (dK D_Plan_recount_2 15 rfl) rfl ?_
      refine vg_iaload (pc := 203) (j := a4.toNat) (dK D_Plan_recount_2 16 rfl) (hw_9_0 hc3) rfl hi24 rfl ?_
      refine vg_iadd (pc := 204) (dK D_Plan_recount_2 17 rfl) ?_
      refine g_aloadn (pc := 205) (i0 := 0) (j := 1) (dK D_Plan_recount_2 18 rfl) rfl rfl ?_
      refine vg_getI (pc := 206) (ci := 4) (f := 1) (dK D_Plan_recount_2 19 rfl) q_305 hc0 (ltK rfl) (ltK rfl) rfl ?_
      refine vg_iconst (pc := 209) (dK D_Plan_recount_2 20 rfl) ?_
      refine vg_iadd (pc := 210) (dK D_Plan_recount_2 21 rfl) ?_
      refine nmE h (fun v34 e_v34 h => ?_)
      refine gtop e_v34 ?_
      refine nmE h (fun v35 e_v35 h => ?_)
      refine gsk (st' := [V v34, V v35]) (by rw [Vn e_v35]) ?_
      refine vg_mmin (pc := 211) (dK D_Plan_recount_2 22 rfl) q_290 (leK rfl) (leK rfl) (leK rfl) (leK rfl) (Vn_in e_v35) (Vn_in e_v34) ?_
      refine g_goto (pc := 214) (tgt := 218) (dK D_Plan_recount_2 23 rfl) rfl ?_
      refine g_istore (pc := 218) (ls2 := [(6, V (i_min v35 v34)), (5, V (g S (tgt c3 4) a4.toNat)), (0, .ref c0), (3, .ref c3), (4, V a4)]) (dK D_Plan_recount_2 25 rfl) (ltK rfl) rfl ?_
      refine g_iload (pc := 220) (j := 1) (dK D_Plan_recount_2 26 rfl) rfl ?_
      refine g_istore (pc := 222) (ls2 := [(7, V (g S (tgt c3 4) a4.toNat)), (6, V (i_min v35 v34)), (5, V (g S (tgt c3 4) a4.toNat)), (0, .ref c0), (3, .ref c3), (4, V a4)]) (dK D_Plan_recount_2 27 rfl) (ltK rfl) rfl ?_
      refine bnE h (fun p36 e_p36 h => ?_)
      refine gL_weak (ls' := [(0, .ref c0), (3, .ref c3), (4, V a4), (6, V (i_min v35 v34)), (7, V (g S (tgt c3 4) a4.toNat))]) (sbc 3 rfl (sbc 4 rfl (sbc 5 rfl (sbc 1 rfl (sbc 0 rfl sbn))))) ?_
      refine tl_Plan_recount_224 hc0 hc3 ha4 (i_min_in (Vn_in e_v35) (Vn_in e_v34)) ?_ FU ((g S (tgt c3 4) a4.toNat), S) e_p36 (g_in _ _ _)
      refine nmE h (fun v37 e_v37 h => ?_)
      refine vg_iinc (pc := 254) (j := 2) (a := a4) (z := 1) (ls2 := [(4, V v37), (0, .ref c0), (3, .ref c3)]) (dK D_Plan_recount_2 43 rfl) rfl e_v37 (ltK rfl) rfl ?_
      refine g_goto (pc := 257) (tgt := 168) (dK D_Plan_recount_2 44 rfl) rfl ?_
      refine gL_weak (ls' := [(0, .ref c0), (3, .ref c3), (4, V v37)]) (sbc 1 rfl (sbc 2 rfl (sbc 0 rfl sbn))) ?_
      replace h := ih _ h
      exact h (Vn_in e_v37)
    · replace h := ifN h hc26
      refine vg_iconst (pc := 217) (dK D_Plan_recount_2 24 rfl) ?_
      refine g_istore (pc := 218) (ls2 := [(6, V 0), (5, V (g S (tgt c3 4) a4.toNat)), (0, .ref c0), (3, .ref c3), (4, V a4)]) (dK D_Plan_recount_2 25 rfl) (ltK rfl) rfl ?_
      refine g_iload (pc := 220) (j := 1) (dK D_Plan_recount_2 26 rfl) rfl ?_
      refine g_istore (pc := 222) (ls2 := [(7, V (g S (tgt c3 4) a4.toNat)), (6, V 0), (5, V (g S (tgt c3 4) a4.toNat)), (0, .ref c0), (3, .ref c3), (4, V a4)]) (dK D_Plan_recount_2 27 rfl) (ltK rfl) rfl ?_
      refine bnE h (fun p32 e_p32 h => ?_)
      refine gL_weak (ls' := [(0, .ref c0), (3, .ref c3), (4, V a4), (6, V 0), (7, V (g S (tgt c3 4) a4.toNat))]) (sbc 3 rfl (sbc 4 rfl (sbc 5 rfl (sbc 1 rfl (sbc 0 rfl sbn))))) ?_
      refine tl_Plan_recount_224 hc0 hc3 ha4 (inRk rfl) ?_ FU ((g S (tgt c3 4) a4.toNat), S) e_p32 (g_in _ _ _)
      refine nmE h (fun v33 e_v33 h => ?_)
      refine vg_iinc (pc := 254) (j := 2) (a := a4) (z := 1) (ls2 := [(4, V v33), (0, .ref c0), (3, .ref c3)]) (dK D_Plan_recount_2 43 rfl) rfl e_v33 (ltK rfl) rfl ?_
      refine g_goto (pc := 257) (tgt := 168) (dK D_Plan_recount_2 44 rfl) rfl ?_
      refine gL_weak (ls' := [(0, .ref c0), (3, .ref c3), (4, V v33)]) (sbc 1 rfl (sbc 2 rfl (sbc 0 rfl sbn))) ?_
      replace h := ih _ h
      exact h (Vn_in e_v33)
def fn_Plan_recount (c0 : Nat) (S : St) : Option (St) := bnO (fn_Arrays_fill 65 (tgt c0 5) 4 S) fun p1 => bnO (fn_Arrays_fill 65 (tgt c0 6) (-1) p1) fun p2 => bnO (fn_Arrays_fill 330 (tgt c0 7) 0 p2) fun p3 => bnO (lo_Plan_recount_34 c0 (tgt (tgt c0 0) 0) FU (0, p3)) fun p14 => bnO (lo_Plan_recount_110 c0 (tgt (tgt c0 0) 2) FU (0, p14)) fun p23 => bnO (lo_Plan_recount_168 c0 (tgt (tgt c0 0) 1) FU (0, p23)) fun p39 => some p39
theorem tf_Plan_recount {E : EV} {X : XT} {c0 : Nat} (hc0 : HC X 4 c0) {S : St} {q : St} (h : fn_Plan_recount c0 S = some q) : Ev E M_Plan_recount [.ref c0] (WX X S) 0 0 (KU X q) := by
  refine Ev.of pn_Plan rfl (leK rfl) ?_
  show Go E M_Plan_recount 0 0 0 [(0, .ref c0)] [] (WX X S) 0 0 (KU X q)
  unfold fn_Plan_recount at h
  refine g_aloadn (pc := 0) (i0 := 0) (j := 0) (dK D_Plan_recount_0 0 rfl) rfl rfl ?_
  refine vg_getA (pc := 1) (ci := 4) (f := 5) (dK D_Plan_recount_0 1 rfl) q_318 hc0 (ltK rfl) (ltK rfl) rfl ?_
  refine vg_iconst (pc := 4) (dK D_Plan_recount_0 2 rfl) ?_
  refine bnE h (fun p1 e_p1 h => ?_)
  refine vg_cS (pc := 5) (As := [.ref (tgt c0 5), V 4]) (rest := []) (mc' := 0) (ms' := 0) (dK D_Plan_recount_0 3 rfl) K_Plan_83 (fitK rfl) rfl (leK rfl) (leK rfl) (leK rfl) (tf_Arrays_fill rfl (hw_4_5 hc0) (inRk rfl) e_p1) (kcU ?_)
  refine g_aloadn (pc := 8) (i0 := 0) (j := 0) (dK D_Plan_recount_0 4 rfl) rfl rfl ?_
  refine vg_getA (pc := 9) (ci := 4) (f := 6) (dK D_Plan_recount_0 5 rfl) q_320 hc0 (ltK rfl) (ltK rfl) rfl ?_
  refine vg_iconst (pc := 12) (dK D_Plan_recount_0 6 rfl) ?_
  refine bnE h (fun p2 e_p2 h => ?_)
  refine vg_cS (pc := 13) (As := [.ref (tgt c0 6), V (-1)]) (rest := []) (mc' := 0) (ms' := 0) (dK D_Plan_recount_0 7 rfl) K_Plan_83 (fitK rfl) rfl (leK rfl) (leK rfl) (leK rfl) (tf_Arrays_fill rfl (hw_4_6 hc0) (inRk rfl) e_p2) (kcU ?_)
  refine g_aloadn (pc := 16) (i0 := 0) (j := 0) (dK D_Plan_recount_0 8 rfl) rfl rfl ?_
  refine vg_getA (pc := 17) (ci := 4) (f := 7) (dK D_Plan_recount_0 9 rfl) q_323 hc0 (ltK rfl) (ltK rfl) rfl ?_
  refine vg_iconst (pc := 20) (dK D_Plan_recount_0 10 rfl) ?_
  refine bnE h (fun p3 e_p3 h => ?_)
  refine vg_cS (pc := 21) (As := [.ref (tgt c0 7), V 0]) (rest := []) (mc' := 0) (ms' := 0) (dK D_Plan_recount_0 11 rfl) K_Plan_83 (fitK rfl) rfl (leK rfl) (leK rfl) (leK rfl) (tf_Arrays_fill rfl (hw_4_7 hc0) (inRk rfl) e_p3) (kcU ?_)
  refine g_aloadn (pc := 24) (i0 := 0) (j := 0) (dK D_Plan_recount_0 12 rfl) rfl rfl ?_
  refine vg_getO (pc := 25) (ci := 4) (f := 0) (dK D_Plan_recount_0 13 rfl) q_301 hc0 (ltK rfl) (ltK rfl) rfl ?_
  refine vg_getO (pc := 28) (ci := 8) (f := 0) (dK D_Plan_recount_0 14 rfl) q_233 (hw_4_0 hc0) (ltK rfl) (ltK rfl) rfl ?_
  refine g_astoren (pc := 31) (i0 := 1) (ls2 := [(1, .ref (tgt (tgt c0 0) 0)), (0, .ref c0)]) (dK D_Plan_recount_0 15 rfl) rfl (ltK rfl) rfl ?_
  refine vg_iconst (pc := 32) (dK D_Plan_recount_0 16 rfl) ?_
  refine g_istoren (pc := 33) (i0 := 2) (ls2 := [(2, V 0), (1, .ref (tgt (tgt c0 0) 0)), (0, .ref c0)]) (dK D_Plan_recount_0 17 rfl) rfl (ltK rfl) rfl ?_
  refine bnE h (fun p14 e_p14 h => ?_)
  refine gL_weak (ls' := [(0, .ref c0), (1, .ref (tgt (tgt c0 0) 0)), (2, V 0)]) (sbc 2 rfl (sbc 1 rfl (sbc 0 rfl sbn))) ?_
  refine tl_Plan_recount_34 hc0 (hw_8_0 (hw_4_0 hc0)) ?_ FU (0, p3) e_p14 (inRk rfl)
  refine g_aloadn (pc := 100) (i0 := 0) (j := 0) (dK D_Plan_recount_1 11 rfl) rfl rfl ?_
  refine vg_getO (pc := 101) (ci := 4) (f := 0) (dK D_Plan_recount_1 12 rfl) q_301 hc0 (ltK rfl) (ltK rfl) rfl ?_
  refine vg_getO (pc := 104) (ci := 8) (f := 2) (dK D_Plan_recount_1 13 rfl) q_242 (hw_4_0 hc0) (ltK rfl) (ltK rfl) rfl ?_
  refine g_astoren (pc := 107) (i0 := 2) (ls2 := [(2, .ref (tgt (tgt c0 0) 2)), (0, .ref c0)]) (dK D_Plan_recount_1 14 rfl) rfl (ltK rfl) rfl ?_
  refine vg_iconst (pc := 108) (dK D_Plan_recount_1 15 rfl) ?_
  refine g_istoren (pc := 109) (i0 := 3) (ls2 := [(3, V 0), (2, .ref (tgt (tgt c0 0) 2)), (0, .ref c0)]) (dK D_Plan_recount_1 16 rfl) rfl (ltK rfl) rfl ?_
  refine bnE h (fun p23 e_p23 h => ?_)
  refine gL_weak (ls' := [(0, .ref c0), (2, .ref (tgt (tgt c0 0) 2)), (3, V 0)]) (sbc 2 rfl (sbc 1 rfl (sbc 0 rfl sbn))) ?_
  refine tl_Plan_recount_110 hc0 (hw_8_2 (hw_4_0 hc0)) ?_ FU (0, p14) e_p23 (inRk rfl)
  refine g_aloadn (pc := 157) (i0 := 0) (j := 0) (dK D_Plan_recount_1 43 rfl) rfl rfl ?_
  refine vg_getO (pc := 158) (ci := 4) (f := 0) (dK D_Plan_recount_1 44 rfl) q_301 hc0 (ltK rfl) (ltK rfl) rfl ?_
  refine vg_getO (pc := 161) (ci := 8) (f := 1) (dK D_Plan_recount_1 45 rfl) q_237 (hw_4_0 hc0) (ltK rfl) (ltK rfl) rfl ?_
  refine g_astoren (pc := 164) (i0 := 3) (ls2 := [(3, .ref (tgt (tgt c0 0) 1)), (0, .ref c0)]) (dK D_Plan_recount_1 46 rfl) rfl (ltK rfl) rfl ?_
  refine vg_iconst (pc := 165) (dK D_Plan_recount_1 47 rfl) ?_
  refine g_istore (pc := 166) (ls2 := [(4, V 0), (3, .ref (tgt (tgt c0 0) 1)), (0, .ref c0)]) (dK D_Plan_recount_1 48 rfl) (ltK rfl) rfl ?_
  refine bnE h (fun p39 e_p39 h => ?_)
  refine gL_weak (ls' := [(0, .ref c0), (3, .ref (tgt (tgt c0 0) 1)), (4, V 0)]) (sbc 2 rfl (sbc 1 rfl (sbc 0 rfl sbn))) ?_
  refine tl_Plan_recount_168 hc0 (hw_8_1 (hw_4_0 hc0)) ?_ FU (0, p23) e_p39 (inRk rfl)
  exact g_return (pc := 260) (dK D_Plan_recount_2 45 rfl) rfl (leK rfl) (leK rfl) (fun _ => rfl) (by obtain rfl := Option.some.inj h; exact ⟨rfl, rfl⟩)
def fn_Plan_begin (c0 : Nat) (a1 : Int) (a2 : Int) (S : St) : Option (St) := nm (u S (tgt c0 0) 4 a1) fun S1 => nm (u S1 (tgt c0 0) 5 a2) fun S2 => nm (u S2 (tgt (tgt c0 0) 0) 7 0) fun S3 => nm (u S3 (tgt (tgt c0 0) 1) 5 0) fun S4 => nm (u S4 (tgt (tgt c0 0) 2) 2 0) fun S5 => nm (u S5 (tgt c0 0) 6 0) fun S6 => nm (u S6 (tgt c0 0) 7 0) fun S7 => bnO (fn_Arrays_fill 8 (tgt (tgt (tgt c0 0) 3) 0) 0 S7) fun p8 => bnO (fn_Arrays_fill 8 (tgt (tgt (tgt c0 0) 3) 1) 0 p8) fun p9 => bnO (fn_Arrays_fill 8 (tgt (tgt (tgt c0 0) 3) 2) 0 p9) fun p10 => bnO (fn_Plan_layOut c0 p10) fun p11 => bnO (fn_Plan_recount c0 p11) fun p12 => some p12
theorem tf_Plan_begin {E : EV} {X : XT} {c0 : Nat} (hc0 : HC X 4 c0) {a1 : Int} (ha1 : inR a1) {a2 : Int} (ha2 : inR a2) {S : St} {q : St} (h : fn_Plan_begin c0 a1 a2 S = some q) : Ev E M_Plan_begin [.ref c0, V a1, V a2] (WX X S) 0 0 (KU X q) := by
  refine Ev.of pn_Plan rfl (leK rfl) ?_
  show Go E M_Plan_begin 0 0 0 [(0, .ref c0), (1, V a1), (2, V a2)] [] (WX X S) 0 0 (KU X q)
  unfold fn_Plan_begin at h
  refine g_aloadn (pc := 0) (i0 := 0) (j := 0) (dK D_Plan_begin_0 0 rfl) rfl rfl ?_
  refine vg_getO (pc := 1) (ci := 4) (f := 0) (dK D_Plan_begin_0 1 rfl) q_301 hc0 (ltK rfl) (ltK rfl) rfl ?_
  refine g_iloadn (pc := 4) (i0 := 1) (j := 1) (dK D_Plan_begin_0 2 rfl) rfl rfl ?_
  refine nmE h (fun S1 e_S1 h => ?_)
  refine vg_putI (pc := 5) (ci := 8) (f := 4) (z := a1) (dK D_Plan_begin_0 3 rfl) q_250 (hw_4_0 hc0) (ltK rfl) (ltK rfl) rfl rfl e_S1 ?_
  refine g_aloadn (pc := 8) (i0 := 0) (j := 0) (dK D_Plan_begin_0 4 rfl) rfl rfl ?_
  refine vg_getO (pc := 9) (ci := 4) (f := 0) (dK D_Plan_begin_0 5 rfl) q_301 hc0 (ltK rfl) (ltK rfl) rfl ?_
  refine g_iloadn (pc := 12) (i0 := 2) (j := 2) (dK D_Plan_begin_0 6 rfl) rfl rfl ?_
  refine nmE h (fun S2 e_S2 h => ?_)
  refine vg_putI (pc := 13) (ci := 8) (f := 5) (z := a2) (dK D_Plan_begin_0 7 rfl) q_253 (hw_4_0 hc0) (ltK rfl) (ltK rfl) rfl rfl e_S2 ?_
  refine g_aloadn (pc := 16) (i0 := 0) (j := 0) (dK D_Plan_begin_0 8 rfl) rfl rfl ?_
  refine vg_getO (pc := 17) (ci := 4) (f := 0) (dK D_Plan_begin_0 9 rfl) q_301 hc0 (ltK rfl) (ltK rfl) rfl ?_
  refine vg_getO (pc := 20) (ci := 8) (f := 0) (dK D_Plan_begin_0 10 rfl) q_233 (hw_4_0 hc0) (ltK rfl) (ltK rfl) rfl ?_
  refine vg_iconst (pc := 23) (dK D_Plan_begin_0 11 rfl) ?_
  refine nmE h (fun S3 e_S3 h => ?_)
  refine vg_putI (pc := 24) (ci := 0) (f := 7) (z := 0) (dK D_Plan_begin_0 12 rfl) q_118 (hw_8_0 (hw_4_0 hc0)) (ltK rfl) (ltK rfl) rfl rfl e_S3 ?_
  refine g_aloadn (pc := 27) (i0 := 0) (j := 0) (dK D_Plan_begin_0 13 rfl) rfl rfl ?_
  refine vg_getO (pc := 28) (ci := 4) (f := 0) (dK D_Plan_begin_0 14 rfl) q_301 hc0 (ltK rfl) (ltK rfl) rfl ?_
  refine vg_getO (pc := 31) (ci := 8) (f := 1) (dK D_Plan_begin_0 15 rfl) q_237 (hw_4_0 hc0) (ltK rfl) (ltK rfl) rfl ?_
  refine vg_iconst (pc := 34) (dK D_Plan_begin_0 16 rfl) ?_
  refine nmE h (fun S4 e_S4 h => ?_)
  refine vg_putI (pc := 35) (ci := 9) (f := 5) (z := 0) (dK D_Plan_begin_0 17 rfl) q_165 (hw_8_1 (hw_4_0 hc0)) (ltK rfl) (ltK rfl) rfl rfl e_S4 ?_
  refine g_aloadn (pc := 38) (i0 := 0) (j := 0) (dK D_Plan_begin_0 18 rfl) rfl rfl ?_
  refine vg_getO (pc := 39) (ci := 4) (f := 0) (dK D_Plan_begin_0 19 rfl) q_301 hc0 (ltK rfl) (ltK rfl) rfl ?_
  refine vg_getO (pc := 42) (ci := 8) (f := 2) (dK D_Plan_begin_0 20 rfl) q_242 (hw_4_0 hc0) (ltK rfl) (ltK rfl) rfl ?_
  refine vg_iconst (pc := 45) (dK D_Plan_begin_0 21 rfl) ?_
  refine nmE h (fun S5 e_S5 h => ?_)
  refine vg_putI (pc := 46) (ci := 7) (f := 2) (z := 0) (dK D_Plan_begin_0 22 rfl) q_195 (hw_8_2 (hw_4_0 hc0)) (ltK rfl) (ltK rfl) rfl rfl e_S5 ?_
  refine g_aloadn (pc := 49) (i0 := 0) (j := 0) (dK D_Plan_begin_0 23 rfl) rfl rfl ?_
  refine vg_getO (pc := 50) (ci := 4) (f := 0) (dK D_Plan_begin_0 24 rfl) q_301 hc0 (ltK rfl) (ltK rfl) rfl ?_
  refine vg_iconst (pc := 53) (dK D_Plan_begin_0 25 rfl) ?_
  refine nmE h (fun S6 e_S6 h => ?_)
  refine vg_putI (pc := 54) (ci := 8) (f := 6) (z := 0) (dK D_Plan_begin_0 26 rfl) q_256 (hw_4_0 hc0) (ltK rfl) (ltK rfl) rfl rfl e_S6 ?_
  refine g_aloadn (pc := 57) (i0 := 0) (j := 0) (dK D_Plan_begin_0 27 rfl) rfl rfl ?_
  refine vg_getO (pc := 58) (ci := 4) (f := 0) (dK D_Plan_begin_0 28 rfl) q_301 hc0 (ltK rfl) (ltK rfl) rfl ?_
  refine vg_iconst (pc := 61) (dK D_Plan_begin_0 29 rfl) ?_
  refine nmE h (fun S7 e_S7 h => ?_)
  refine vg_putI (pc := 62) (ci := 8) (f := 7) (z := 0) (dK D_Plan_begin_0 30 rfl) q_259 (hw_4_0 hc0) (ltK rfl) (ltK rfl) rfl rfl e_S7 ?_
  refine g_aloadn (pc := 65) (i0 := 0) (j := 0) (dK D_Plan_begin_0 31 rfl) rfl rfl ?_
  refine vg_getO (pc := 66) (ci := 4) (f := 0) (dK D_Plan_begin_0 32 rfl) q_301 hc0 (ltK rfl) (ltK rfl) rfl ?_
  refine vg_getO (pc := 69) (ci := 8) (f := 3) (dK D_Plan_begin_0 33 rfl) q_246 (hw_4_0 hc0) (ltK rfl) (ltK rfl) rfl ?_
  refine vg_getA (pc := 72) (ci := 2) (f := 0) (dK D_Plan_begin_0 34 rfl) q_212 (hw_8_3 (hw_4_0 hc0)) (ltK rfl) (ltK rfl) rfl ?_
  refine vg_iconst (pc := 75) (dK D_Plan_begin_0 35 rfl) ?_
  refine bnE h (fun p8 e_p8 h => ?_)
  refine vg_cS (pc := 76) (As := [.ref (tgt (tgt (tgt c0 0) 3) 0), V 0]) (rest := []) (mc' := 0) (ms' := 0) (dK D_Plan_begin_0 36 rfl) K_Plan_83 (fitK rfl) rfl (leK rfl) (leK rfl) (leK rfl) (tf_Arrays_fill rfl (hw_2_0 (hw_8_3 (hw_4_0 hc0))) (inRk rfl) e_p8) (kcU ?_)
  refine g_aloadn (pc := 79) (i0 := 0) (j := 0) (dK D_Plan_begin_0 37 rfl) rfl rfl ?_
  refine vg_getO (pc := 80) (ci := 4) (f := 0) (dK D_Plan_begin_0 38 rfl) q_301 hc0 (ltK rfl) (ltK rfl) rfl ?_
  refine vg_getO (pc := 83) (ci := 8) (f := 3) (dK D_Plan_begin_0 39 rfl) q_246 (hw_4_0 hc0) (ltK rfl) (ltK rfl) rfl ?_
  refine vg_getA (pc := 86) (ci := 2) (f := 1) (dK D_Plan_begin_0 40 rfl) q_217 (hw_8_3 (hw_4_0 hc0)) (ltK rfl) (ltK rfl) rfl ?_
  refine vg_iconst (pc := 89) (dK D_Plan_begin_0 41 rfl) ?_
  refine bnE h (fun p9 e_p9 h => ?_)
  refine vg_cS (pc := 90) (As := [.ref (tgt (tgt (tgt c0 0) 3) 1), V 0]) (rest := []) (mc' := 0) (ms' := 0) (dK D_Plan_begin_0 42 rfl) K_Plan_83 (fitK rfl) rfl (leK rfl) (leK rfl) (leK rfl) (tf_Arrays_fill rfl (hw_2_1 (hw_8_3 (hw_4_0 hc0))) (inRk rfl) e_p9) (kcU ?_)
  refine g_aloadn (pc := 93) (i0 := 0) (j := 0) (dK D_Plan_begin_0 43 rfl) rfl rfl ?_
  refine vg_getO (pc := 94) (ci := 4) (f := 0) (dK D_Plan_begin_0 44 rfl) q_301 hc0 (ltK rfl) (ltK rfl) rfl ?_
  refine vg_getO (pc := 97) (ci := 8) (f := 3) (dK D_Plan_begin_0 45 rfl) q_246 (hw_4_0 hc0) (ltK rfl) (ltK rfl) rfl ?_
  refine vg_getA (pc := 100) (ci := 2) (f := 2) (dK D_Plan_begin_0 46 rfl) q_221 (hw_8_3 (hw_4_0 hc0)) (ltK rfl) (ltK rfl) rfl ?_
  refine vg_iconst (pc := 103) (dK D_Plan_begin_0 47 rfl) ?_
  refine bnE h (fun p10 e_p10 h => ?_)
  refine vg_cS (pc := 104) (As := [.ref (tgt (tgt (tgt c0 0) 3) 2), V 0]) (rest := []) (mc' := 0) (ms' := 0) (dK D_Plan_begin_0 48 rfl) K_Plan_83 (fitK rfl) rfl (leK rfl) (leK rfl) (leK rfl) (tf_Arrays_fill rfl (hw_2_2 (hw_8_3 (hw_4_0 hc0))) (inRk rfl) e_p10) (kcU ?_)
  refine g_aloadn (pc := 107) (i0 := 0) (j := 0) (dK D_Plan_begin_0 49 rfl) rfl rfl ?_
  refine bnE h (fun p11 e_p11 h => ?_)
  refine vg_cV (pc := 108) (As := []) (rest := []) (mc' := 0) (ms' := 0) (dK D_Plan_begin_1 0 rfl) K_Plan_95 (fitK rfl) (ltK rfl) hc0 rfl (leK rfl) (leK rfl) (leK rfl) (tf_Plan_layOut hc0 e_p11) (kcU ?_)
  refine g_aloadn (pc := 111) (i0 := 0) (j := 0) (dK D_Plan_begin_1 1 rfl) rfl rfl ?_
  refine bnE h (fun p12 e_p12 h => ?_)
  refine vg_cV (pc := 112) (As := []) (rest := []) (mc' := 0) (ms' := 0) (dK D_Plan_begin_1 2 rfl) K_Plan_98 (fitK rfl) (ltK rfl) hc0 rfl (leK rfl) (leK rfl) (leK rfl) (tf_Plan_recount hc0 e_p12) (kcU ?_)
  exact g_return (pc := 115) (dK D_Plan_begin_1 3 rfl) rfl (leK rfl) (leK rfl) (fun _ => rfl) (by obtain rfl := Option.some.inj h; exact ⟨rfl, rfl⟩)
def fn_Bytes_byteAt (c0 : Nat) (a1 : Int) (S : St) : Option (Int) := if a1 < 0 then (some (-1)) else (if (((ln (tgt c0 0)) : Nat) : Int) ≤ a1 then (some (-1)) else (if 0 ≤ a1 ∧ a1 < (((ln (tgt c0 0)) : Nat) : Int) then (some (g S (tgt c0 0) a1.toNat)) else none))
theorem tf_Bytes_byteAt {E : EV} {X : XT} {c0 : Nat} (hc0 : HC X 1 c0) {a1 : Int} (ha1 : inR a1) {S : St} {q : Int} (h : fn_Bytes_byteAt c0 a1 S = some q) : Ev E M_Bytes_byteAt [.ref c0, V a1] (WX X S) 0 0 (KI X q S) := by
  refine Ev.of pn_Bytes rfl (leK rfl) ?_
  show Go E M_Bytes_byteAt 0 0 0 [(0, .ref c0), (1, V a1)] [] (WX X S) 0 0 (KI X q S)
  unfold fn_Bytes_byteAt at h
  refine g_iloadn (pc := 0) (i0 := 1) (j := 1) (dK D_Bytes_byteAt 0 rfl) rfl rfl ?_
  refine vg_if_lt (pc := 1) (t := 22) (dK D_Bytes_byteAt 1 rfl) rfl ha1 (fun hc3 => ?_) (fun hc3 => ?_)
  · replace h := ifP h hc3
    refine vg_iconst (pc := 22) (dK D_Bytes_byteAt 12 rfl) ?_
    exact vg_iretI (pc := 23) (r := (-1)) (dK D_Bytes_byteAt 13 rfl) rfl (leK rfl) (leK rfl) (fun _ => rfl) (by obtain rfl := Option.some.inj h; exact ⟨rfl, (inRk rfl), rfl⟩)
  · replace h := ifN h hc3
    refine g_iloadn (pc := 4) (i0 := 1) (j := 1) (dK D_Bytes_byteAt 2 rfl) rfl rfl ?_
    refine g_aloadn (pc := 5) (i0 := 0) (j := 0) (dK D_Bytes_byteAt 3 rfl) rfl rfl ?_
    refine vg_getA (pc := 6) (ci := 1) (f := 0) (dK D_Bytes_byteAt 4 rfl) q_59 hc0 (ltK rfl) (ltK rfl) rfl ?_
    refine vg_alen (pc := 9) (dK D_Bytes_byteAt 5 rfl) (ltK rfl) (hw_1_0 hc0) ?_
    refine vg_icmp_ge (pc := 10) (t := 22) (dK D_Bytes_byteAt 6 rfl) rfl ha1 (inR_nat (lnAll _ (hw_1_0 hc0).is.1)) (fun hc2 => ?_) (fun hc2 => ?_)
    · replace h := ifP h hc2
      refine vg_iconst (pc := 22) (dK D_Bytes_byteAt 12 rfl) ?_
      exact vg_iretI (pc := 23) (r := (-1)) (dK D_Bytes_byteAt 13 rfl) rfl (leK rfl) (leK rfl) (fun _ => rfl) (by obtain rfl := Option.some.inj h; exact ⟨rfl, (inRk rfl), rfl⟩)
    · replace h := ifN h hc2
      refine g_aloadn (pc := 13) (i0 := 0) (j := 0) (dK D_Bytes_byteAt 7 rfl) rfl rfl ?_
      refine vg_getA (pc := 14) (ci := 1) (f := 0) (dK D_Bytes_byteAt 8 rfl) q_59 hc0 (ltK rfl) (ltK rfl) rfl ?_
      refine g_iloadn (pc := 17) (i0 := 1) (j := 1) (dK D_Bytes_byteAt 9 rfl) rfl rfl ?_
      refine gdE h (fun hi1 h => ?_)
      refine vg_iaload (pc := 18) (j := a1.toNat) (dK D_Bytes_byteAt 10 rfl) (hw_1_0 hc0) (lnAll _ (hw_1_0 hc0).is.1) hi1 rfl ?_
      refine g_goto (pc := 19) (tgt := 23) (dK D_Bytes_byteAt 11 rfl) rfl ?_
      exact vg_iretI (pc := 23) (r := (g S (tgt c0 0) a1.toNat)) (dK D_Bytes_byteAt 13 rfl) rfl (leK rfl) (leK rfl) (fun _ => rfl) (by obtain rfl := Option.some.inj h; exact ⟨rfl, (g_in _ _ _), rfl⟩)
def fn_Reader_isLetter (a0 : Int) (S : St) : Option (Bool) := if a0 < 97 then (some false) else (if 122 < a0 then (some false) else (some true))
theorem tf_Reader_isLetter {E : EV} {X : XT} {a0 : Int} (ha0 : inR a0) {S : St} {q : Bool} (h : fn_Reader_isLetter a0 S = some q) : Ev E M_Reader_isLetter [V a0] (WX X S) 0 0 (KB X q S) := by
  refine Ev.of pn_Reader rfl (leK rfl) ?_
  show Go E M_Reader_isLetter 0 0 0 [(0, V a0)] [] (WX X S) 0 0 (KB X q S)
  unfold fn_Reader_isLetter at h
  refine g_iloadn (pc := 0) (i0 := 0) (j := 0) (dK D_Reader_isLetter 0 rfl) rfl rfl ?_
  refine vg_bipush (pc := 1) (dK D_Reader_isLetter 1 rfl) rfl ?_
  refine vg_icmp_lt (pc := 3) (t := 16) (dK D_Reader_isLetter 2 rfl) rfl ha0 (inRk rfl) (fun hc2 => ?_) (fun hc2 => ?_)
  · replace h := ifP h hc2
    refine vg_iconst (pc := 16) (dK D_Reader_isLetter 8 rfl) ?_
    exact vg_iretB (pc := 17) (b := false) (dK D_Reader_isLetter 9 rfl) rfl (leK rfl) (leK rfl) (fun _ => rfl) (by obtain rfl := Option.some.inj h; exact ⟨rfl, rfl⟩)
  · replace h := ifN h hc2
    refine g_iloadn (pc := 6) (i0 := 0) (j := 0) (dK D_Reader_isLetter 3 rfl) rfl rfl ?_
    refine vg_bipush (pc := 7) (dK D_Reader_isLetter 4 rfl) rfl ?_
    refine vg_icmp_gt (pc := 9) (t := 16) (dK D_Reader_isLetter 5 rfl) rfl ha0 (inRk rfl) (fun hc1 => ?_) (fun hc1 => ?_)
    · replace h := ifP h hc1
      refine vg_iconst (pc := 16) (dK D_Reader_isLetter 8 rfl) ?_
      exact vg_iretB (pc := 17) (b := false) (dK D_Reader_isLetter 9 rfl) rfl (leK rfl) (leK rfl) (fun _ => rfl) (by obtain rfl := Option.some.inj h; exact ⟨rfl, rfl⟩)
    · replace h := ifN h hc1
      refine vg_iconst (pc := 12) (dK D_Reader_isLetter 6 rfl) ?_
      refine g_goto (pc := 13) (tgt := 17) (dK D_Reader_isLetter 7 rfl) rfl ?_
      exact vg_iretB (pc := 17) (b := true) (dK D_Reader_isLetter 9 rfl) rfl (leK rfl) (leK rfl) (fun _ => rfl) (by obtain rfl := Option.some.inj h; exact ⟨rfl, rfl⟩)
def fn_Reader_isDigit (a0 : Int) (S : St) : Option (Bool) := if a0 < 48 then (some false) else (if 57 < a0 then (some false) else (some true))
theorem tf_Reader_isDigit {E : EV} {X : XT} {a0 : Int} (ha0 : inR a0) {S : St} {q : Bool} (h : fn_Reader_isDigit a0 S = some q) : Ev E M_Reader_isDigit [V a0] (WX X S) 0 0 (KB X q S) := by
  refine Ev.of pn_Reader rfl (leK rfl) ?_
  show Go E M_Reader_isDigit 0 0 0 [(0, V a0)] [] (WX X S) 0 0 (KB X q S)
  unfold fn_Reader_isDigit at h
  refine g_iloadn (pc := 0) (i0 := 0) (j := 0) (dK D_Reader_isDigit 0 rfl) rfl rfl ?_
  refine vg_bipush (pc := 1) (dK D_Reader_isDigit 1 rfl) rfl ?_
  refine vg_icmp_lt (pc := 3) (t := 16) (dK D_Reader_isDigit 2 rfl) rfl ha0 (inRk rfl) (fun hc2 => ?_) (fun hc2 => ?_)
  · replace h := ifP h hc2
    refine vg_iconst (pc := 16) (dK D_Reader_isDigit 8 rfl) ?_
    exact vg_iretB (pc := 17) (b := false) (dK D_Reader_isDigit 9 rfl) rfl (leK rfl) (leK rfl) (fun _ => rfl) (by obtain rfl := Option.some.inj h; exact ⟨rfl, rfl⟩)
  · replace h := ifN h hc2
    refine g_iloadn (pc := 6) (i0 := 0) (j := 0) (dK D_Reader_isDigit 3 rfl) rfl rfl ?_
    refine vg_bipush (pc := 7) (dK D_Reader_isDigit 4 rfl) rfl ?_
    refine vg_icmp_gt (pc := 9) (t := 16) (dK D_Reader_isDigit 5 rfl) rfl ha0 (inRk rfl) (fun hc1 => ?_) (fun hc1 => ?_)
    · replace h := ifP h hc1
      refine vg_iconst (pc := 16) (dK D_Reader_isDigit 8 rfl) ?_
      exact vg_iretB (pc := 17) (b := false) (dK D_Reader_isDigit 9 rfl) rfl (leK rfl) (leK rfl) (fun _ => rfl) (by obtain rfl := Option.some.inj h; exact ⟨rfl, rfl⟩)
    · replace h := ifN h hc1
      refine vg_iconst (pc := 12) (dK D_Reader_isDigit 6 rfl) ?_
      refine g_goto (pc := 13) (tgt := 17) (dK D_Reader_isDigit 7 rfl) rfl ?_
      exact vg_iretB (pc := 17) (b := true) (dK D_Reader_isDigit 9 rfl) rfl (leK rfl) (leK rfl) (fun _ => rfl) (by obtain rfl := Option.some.inj h; exact ⟨rfl, rfl⟩)
def lb_Reader_nextToken_0 (c0 : Nat) (go : St → Option (St))  (S : St) : Option (St) := if (g S (tgt c0 0) 1) ≤ (g S c0 3) then (some S) else (bnO (fn_Bytes_byteAt (tgt c0 0) (g S c0 3) S) fun p1 => if p1 = 32 then (nm (u S c0 3 ((g S c0 3) + 1)) fun S2 => go S2) else (bnO (fn_Bytes_byteAt (tgt c0 0) (g S c0 3) S) fun p3 => if p3 = 10 then (nm (u S c0 3 ((g S c0 3) + 1)) fun S4 => go S4) else (some S)))
def lo_Reader_nextToken_0 (c0 : Nat) : Nat → St → Option (St) := lp fun go p => lb_Reader_nextToken_0 c0 go p
theorem tl_Reader_nextToken_0 {E : EV} {X : XT} {c0 : Nat} (hc0 : HC X 5 c0) {K : RK → PS → Prop} {q : St} (hx : Go E M_Reader_nextToken 0 0 59 [(0, .ref c0)] [] (WX X q) 0 0 K) : ∀ n a, lo_Reader_nextToken_0 c0 n a = some q → Go E M_Reader_nextToken 0 0 0 [(0, .ref c0)] [] (WX X a) 0 0 K := by
  refine lp_ind (P := fun a : St => Go E M_Reader_nextToken 0 0 0 [(0, .ref c0)] [] (WX X a) 0 0 K) (fun go ih S h => ?_)
  show Go E M_Reader_nextToken 0 0 0 [(0, .ref c0)] [] (WX X S) 0 0 K
  replace h : lb_Reader_nextToken_0 c0 go S = some q := h
  unfold lb_Reader_nextToken_0 at h
  refine g_aloadn (pc := 0) (i0 := 0) (j := 0) (dK D_Reader_nextToken_0 0 rfl) rfl rfl ?_
  refine vg_getI (pc := 1) (ci := 5) (f := 3) (dK D_Reader_nextToken_0 1 rfl) q_347 hc0 (ltK rfl) (ltK rfl) rfl ?_
  refine g_aloadn (pc := 4) (i0 := 0) (j := 0) (dK D_Reader_nextToken_0 2 rfl) rfl rfl ?_
  refine vg_getO (pc := 5) (ci := 5) (f := 0) (dK D_Reader_nextToken_0 3 rfl) q_342 hc0 (ltK rfl) (ltK rfl) rfl ?_
  refine vg_getI (pc := 8) (ci := 1) (f := 1) (dK D_Reader_nextToken_0 4 rfl) q_62 (hw_5_0 hc0) (ltK rfl) (ltK rfl) rfl ?_
  refine vg_icmp_ge (pc := 11) (t := 59) (dK D_Reader_nextToken_0 5 rfl) rfl (g_in _ _ _) (g_in _ _ _) (fun hc7 => ?_) (fun hc7 => ?_)
  · replace h := ifP h hc7
    obtain rfl := Option.some.inj h
    exact hx 
  · replace h := ifN h hc7
    refine g_aloadn (pc := 14) (i0 := 0) (j := 0) (dK D_Reader_nextToken_0 6 rfl) rfl rfl ?_
    refine vg_getO (pc := 15) (ci := 5) (f := 0) (dK D_Reader_nextToken_0 7 rfl) q_342 hc0 (ltK rfl) (ltK rfl) rfl ?_
    refine g_aloadn (pc := 18) (i0 := 0) (j := 0) (dK D_Reader_nextToken_0 8 rfl) rfl rfl ?_
    refine vg_getI (pc := 19) (ci := 5) (f := 3) (dK D_Reader_nextToken_0 9 rfl) q_347 hc0 (ltK rfl) (ltK rfl) rfl ?_
    refine bnE h (fun p1 e_p1 h => ?_)
    refine vg_cV (pc := 22) (As := [V (g S c0 3)]) (rest := []) (mc' := 0) (ms' := 0) (dK D_Reader_nextToken_0 10 rfl) K_Reader_198 (fitK rfl) (ltK rfl) (hw_5_0 hc0) rfl (leK rfl) (leK rfl) (leK rfl) (tf_Bytes_byteAt (hw_5_0 hc0) (g_in _ _ _) e_p1) (kcI (fun h_p1 => ?_))
    refine vg_bipush (pc := 25) (dK D_Reader_nextToken_0 11 rfl) rfl ?_
    refine vg_icmp_eq (pc := 27) (t := 46) (dK D_Reader_nextToken_0 12 rfl) rfl h_p1 (inRk rfl) (fun hc6 => ?_) (fun hc6 => ?_)
    · replace h := ifP h hc6
      refine g_aloadn (pc := 46) (i0 := 0) (j := 0) (dK D_Reader_nextToken_0 20 rfl) rfl rfl ?_
      refine g_dup (pc := 47) (dK D_Reader_nextToken_0 21 rfl) rfl ?_
      refine vg_getI (pc := 48) (ci := 5) (f := 3) (dK D_Reader_nextToken_0 22 rfl) q_347 hc0 (ltK rfl) (ltK rfl) rfl ?_
      refine vg_iconst (pc := 51) (dK D_Reader_nextToken_0 23 rfl) ?_
      refine vg_iadd (pc := 52) (dK D_Reader_nextToken_0 24 rfl) ?_
      refine nmE h (fun S2 e_S2 h => ?_)
      refine vg_putI (pc := 53) (ci := 5) (f := 3) (z := ((g S c0 3) + 1)) (dK D_Reader_nextToken_0 25 rfl) q_347 hc0 (ltK rfl) (ltK rfl) rfl rfl e_S2 ?_
      refine g_goto (pc := 56) (tgt := 0) (dK D_Reader_nextToken_0 26 rfl) rfl ?_
      replace h := ih _ h
      exact h 
    · replace h := ifN h hc6
      refine g_aloadn (pc := 30) (i0 := 0) (j := 0) (dK D_Reader_nextToken_0 13 rfl) rfl rfl ?_
      refine vg_getO (pc := 31) (ci := 5) (f := 0) (dK D_Reader_nextToken_0 14 rfl) q_342 hc0 (ltK rfl) (ltK rfl) rfl ?_
      refine g_aloadn (pc := 34) (i0 := 0) (j := 0) (dK D_Reader_nextToken_0 15 rfl) rfl rfl ?_
      refine vg_getI (pc := 35) (ci := 5) (f := 3) (dK D_Reader_nextToken_0 16 rfl) q_347 hc0 (ltK rfl) (ltK rfl) rfl ?_
      refine bnE h (fun p3 e_p3 h => ?_)
      refine vg_cV (pc := 38) (As := [V (g S c0 3)]) (rest := []) (mc' := 0) (ms' := 0) (dK D_Reader_nextToken_0 17 rfl) K_Reader_198 (fitK rfl) (ltK rfl) (hw_5_0 hc0) rfl (leK rfl) (leK rfl) (leK rfl) (tf_Bytes_byteAt (hw_5_0 hc0) (g_in _ _ _) e_p3) (kcI (fun h_p3 => ?_))
      refine vg_bipush (pc := 41) (dK D_Reader_nextToken_0 18 rfl) rfl ?_
      refine vg_icmp_ne (pc := 43) (t := 59) (dK D_Reader_nextToken_0 19 rfl) rfl h_p3 (inRk rfl) (fun hc5 => ?_) (fun hc5 => ?_)
      · replace h := ifN h hc5
        obtain rfl := Option.some.inj h
        exact hx 
      · replace h := ifP h hc5
        refine g_aloadn (pc := 46) (i0 := 0) (j := 0) (dK D_Reader_nextToken_0 20 rfl) rfl rfl ?_
        refine g_dup (pc := 47) (dK D_Reader_nextToken_0 21 rfl) rfl ?_
        refine vg_getI (pc := 48) (ci := 5) (f := 3) (dK D_Reader_nextToken_0 22 rfl) q_347 hc0 (ltK rfl) (ltK rfl) rfl ?_
        refine vg_iconst (pc := 51) (dK D_Reader_nextToken_0 23 rfl) ?_
        refine vg_iadd (pc := 52) (dK D_Reader_nextToken_0 24 rfl) ?_
        refine nmE h (fun S4 e_S4 h => ?_)
        refine vg_putI (pc := 53) (ci := 5) (f := 3) (z := ((g S c0 3) + 1)) (dK D_Reader_nextToken_0 25 rfl) q_347 hc0 (ltK rfl) (ltK rfl) rfl rfl e_S4 ?_
        refine g_goto (pc := 56) (tgt := 0) (dK D_Reader_nextToken_0 26 rfl) rfl ?_
        replace h := ih _ h
        exact h 
def lb_Reader_nextToken_193 (c0 : Nat) (go : St → Option (St))  (S : St) : Option (St) := if (g S (tgt c0 0) 1) ≤ (g S c0 3) then (some S) else (bnO (fn_Bytes_byteAt (tgt c0 0) (g S c0 3) S) fun p22 => bnO (fn_Reader_isDigit p22 S) fun p23 => if p23 = true then (nm (u S c0 3 ((g S c0 3) + 1)) fun S25 => go S25) else (some S))
def lo_Reader_nextToken_193 (c0 : Nat) : Nat → St → Option (St) := lp fun go p => lb_Reader_nextToken_193 c0 go p
theorem tl_Reader_nextToken_193 {E : EV} {X : XT} {c0 : Nat} (hc0 : HC X 5 c0) {K : RK → PS → Prop} {q : St} (hx : Go E M_Reader_nextToken 0 0 237 [(0, .ref c0)] [] (WX X q) 0 0 K) : ∀ n a, lo_Reader_nextToken_193 c0 n a = some q → Go E M_Reader_nextToken 0 0 193 [(0, .ref c0)] [] (WX X a) 0 0 K := by
  refine lp_ind (P := fun a : St => Go E M_Reader_nextToken 0 0 193 [(0, .ref c0)] [] (WX X a) 0 0 K) (fun go ih S h => ?_)
  show Go E M_Reader_nextToken 0 0 193 [(0, .ref c0)] [] (WX X S) 0 0 K
  replace h : lb_Reader_nextToken_193 c0 go S = some q := h
  unfold lb_Reader_nextToken_193 at h
  refine g_aloadn (pc := 193) (i0 := 0) (j := 0) (dK D_Reader_nextToken_1 38 rfl) rfl rfl ?_
  refine vg_getI (pc := 194) (ci := 5) (f := 3) (dK D_Reader_nextToken_1 39 rfl) q_347 hc0 (ltK rfl) (ltK rfl) rfl ?_
  refine g_aloadn (pc := 197) (i0 := 0) (j := 0) (dK D_Reader_nextToken_1 40 rfl) rfl rfl ?_
  refine vg_getO (pc := 198) (ci := 5) (f := 0) (dK D_Reader_nextToken_1 41 rfl) q_342 hc0 (ltK rfl) (ltK rfl) rfl ?_
  refine vg_getI (pc := 201) (ci := 1) (f := 1) (dK D_Reader_nextToken_1 42 rfl) q_62 (hw_5_0 hc0) (ltK rfl) (ltK rfl) rfl ?_
  refine vg_icmp_ge (pc := 204) (t := 237) (dK D_Reader_nextToken_1 43 rfl) rfl (g_in _ _ _) (g_in _ _ _) (fun hc26 => ?_) (fun hc26 => ?_)
  · replace h := ifP h hc26
    obtain rfl := Option.some.inj h
    exact hx 
  · replace h := ifN h hc26
    refine g_aloadn (pc := 207) (i0 := 0) (j := 0) (dK D_Reader_nextToken_1 44 rfl) rfl rfl ?_
    refine vg_getO (pc := 208) (ci := 5) (f := 0) (dK D_Reader_nextToken_1 45 rfl) q_342 hc0 (ltK rfl) (ltK rfl) rfl ?_
    refine g_aloadn (pc := 211) (i0 := 0) (j := 0) (dK D_Reader_nextToken_1 46 rfl) rfl rfl ?_
    refine vg_getI (pc := 212) (ci := 5) (f := 3) (dK D_Reader_nextToken_1 47 rfl) q_347 hc0 (ltK rfl) (ltK rfl) rfl ?_
    refine bnE h (fun p22 e_p22 h => ?_)
    refine vg_cV (pc := 215) (As := [V (g S c0 3)]) (rest := []) (mc' := 0) (ms' := 0) (dK D_Reader_nextToken_1 48 rfl) K_Reader_198 (fitK rfl) (ltK rfl) (hw_5_0 hc0) rfl (leK rfl) (leK rfl) (leK rfl) (tf_Bytes_byteAt (hw_5_0 hc0) (g_in _ _ _) e_p22) (kcI (fun h_p22 => ?_))
    refine bnE h (fun p23 e_p23 h => ?_)
    refine vg_cS (pc := 218) (As := [V p22]) (rest := []) (mc' := 0) (ms' := 0) (dK D_Reader_nextToken_1 49 rfl) K_Reader_205 (fitK rfl) rfl (leK rfl) (leK rfl) (leK rfl) (tf_Reader_isDigit h_p22 e_p23) (kcB ?_)
    refine vg_ifB_eq (pc := 221) (b := p23) (t := 237) (dK D_Reader_nextToken_2 0 rfl) rfl (fun hc24 => ?_) (fun hc24 => ?_)
    · replace h := ifP h hc24
      refine g_aloadn (pc := 224) (i0 := 0) (j := 0) (dK D_Reader_nextToken_2 1 rfl) rfl rfl ?_
      refine g_dup (pc := 225) (dK D_Reader_nextToken_2 2 rfl) rfl ?_
      refine vg_getI (pc := 226) (ci := 5) (f := 3) (dK D_Reader_nextToken_2 3 rfl) q_347 hc0 (ltK rfl) (ltK rfl) rfl ?_
      refine vg_iconst (pc := 229) (dK D_Reader_nextToken_2 4 rfl) ?_
      refine vg_iadd (pc := 230) (dK D_Reader_nextToken_2 5 rfl) ?_
      refine nmE h (fun S25 e_S25 h => ?_)
      refine vg_putI (pc := 231) (ci := 5) (f := 3) (z := ((g S c0 3) + 1)) (dK D_Reader_nextToken_2 6 rfl) q_347 hc0 (ltK rfl) (ltK rfl) rfl rfl e_S25 ?_
      refine g_goto (pc := 234) (tgt := 193) (dK D_Reader_nextToken_2 7 rfl) rfl ?_
      replace h := ih _ h
      exact h 
    · replace h := ifN h hc24
      obtain rfl := Option.some.inj h
      exact hx 
def lb_Reader_nextToken_106 (c0 : Nat) (go : St → Option (St))  (S : St) : Option (St) := if (g S (tgt c0 0) 1) ≤ (g S c0 3) then (some S) else (bnO (fn_Bytes_byteAt (tgt c0 0) (g S c0 3) S) fun p32 => bnO (fn_Reader_isLetter p32 S) fun p33 => if p33 = true then (nm (u S c0 3 ((g S c0 3) + 1)) fun S35 => go S35) else (some S))
def lo_Reader_nextToken_106 (c0 : Nat) : Nat → St → Option (St) := lp fun go p => lb_Reader_nextToken_106 c0 go p
theorem tl_Reader_nextToken_106 {E : EV} {X : XT} {c0 : Nat} (hc0 : HC X 5 c0) {K : RK → PS → Prop} {q : St} (hx : Go E M_Reader_nextToken 0 0 150 [(0, .ref c0)] [] (WX X q) 0 0 K) : ∀ n a, lo_Reader_nextToken_106 c0 n a = some q → Go E M_Reader_nextToken 0 0 106 [(0, .ref c0)] [] (WX X a) 0 0 K := by
  refine lp_ind (P := fun a : St => Go E M_Reader_nextToken 0 0 106 [(0, .ref c0)] [] (WX X a) 0 0 K) (fun go ih S h => ?_)
  show Go E M_Reader_nextToken 0 0 106 [(0, .ref c0)] [] (WX X S) 0 0 K
  replace h : lb_Reader_nextToken_106 c0 go S = some q := h
  unfold lb_Reader_nextToken_106 at h
  refine g_aloadn (pc := 106) (i0 := 0) (j := 0) (dK D_Reader_nextToken_0 48 rfl) rfl rfl ?_
  refine vg_getI (pc := 107) (ci := 5) (f := 3) (dK D_Reader_nextToken_0 49 rfl) q_347 hc0 (ltK rfl) (ltK rfl) rfl ?_
  refine g_aloadn (pc := 110) (i0 := 0) (j := 0) (dK D_Reader_nextToken_1 0 rfl) rfl rfl ?_
  refine vg_getO (pc := 111) (ci := 5) (f := 0) (dK D_Reader_nextToken_1 1 rfl) q_342 hc0 (ltK rfl) (ltK rfl) rfl ?_
  refine vg_getI (pc := 114) (ci := 1) (f := 1) (dK D_Reader_nextToken_1 2 rfl) q_62 (hw_5_0 hc0) (ltK rfl) (ltK rfl) rfl ?_
  refine vg_icmp_ge (pc := 117) (t := 150) (dK D_Reader_nextToken_1 3 rfl) rfl (g_in _ _ _) (g_in _ _ _) (fun hc36 => ?_) (fun hc36 => ?_)
  · replace h := ifP h hc36
    obtain rfl := Option.some.inj h
    exact hx 
  · replace h := ifN h hc36
    refine g_aloadn (pc := 120) (i0 := 0) (j := 0) (dK D_Reader_nextToken_1 4 rfl) rfl rfl ?_
    refine vg_getO (pc := 121) (ci := 5) (f := 0) (dK D_Reader_nextToken_1 5 rfl) q_342 hc0 (ltK rfl) (ltK rfl) rfl ?_
    refine g_aloadn (pc := 124) (i0 := 0) (j := 0) (dK D_Reader_nextToken_1 6 rfl) rfl rfl ?_
    refine vg_getI (pc := 125) (ci := 5) (f := 3) (dK D_Reader_nextToken_1 7 rfl) q_347 hc0 (ltK rfl) (ltK rfl) rfl ?_
    refine bnE h (fun p32 e_p32 h => ?_)
    refine vg_cV (pc := 128) (As := [V (g S c0 3)]) (rest := []) (mc' := 0) (ms' := 0) (dK D_Reader_nextToken_1 8 rfl) K_Reader_198 (fitK rfl) (ltK rfl) (hw_5_0 hc0) rfl (leK rfl) (leK rfl) (leK rfl) (tf_Bytes_byteAt (hw_5_0 hc0) (g_in _ _ _) e_p32) (kcI (fun h_p32 => ?_))
    refine bnE h (fun p33 e_p33 h => ?_)
    refine vg_cS (pc := 131) (As := [V p32]) (rest := []) (mc' := 0) (ms' := 0) (dK D_Reader_nextToken_1 9 rfl) K_Reader_202 (fitK rfl) rfl (leK rfl) (leK rfl) (leK rfl) (tf_Reader_isLetter h_p32 e_p33) (kcB ?_)
    refine vg_ifB_eq (pc := 134) (b := p33) (t := 150) (dK D_Reader_nextToken_1 10 rfl) rfl (fun hc34 => ?_) (fun hc34 => ?_)
    · replace h := ifP h hc34
      refine g_aloadn (pc := 137) (i0 := 0) (j := 0) (dK D_Reader_nextToken_1 11 rfl) rfl rfl ?_
      refine g_dup (pc := 138) (dK D_Reader_nextToken_1 12 rfl) rfl ?_
      refine vg_getI (pc := 139) (ci := 5) (f := 3) (dK D_Reader_nextToken_1 13 rfl) q_347 hc0 (ltK rfl) (ltK rfl) rfl ?_
      refine vg_iconst (pc := 142) (dK D_Reader_nextToken_1 14 rfl) ?_
      refine vg_iadd (pc := 143) (dK D_Reader_nextToken_1 15 rfl) ?_
      refine nmE h (fun S35 e_S35 h => ?_)
      refine vg_putI (pc := 144) (ci := 5) (f := 3) (z := ((g S c0 3) + 1)) (dK D_Reader_nextToken_1 16 rfl) q_347 hc0 (ltK rfl) (ltK rfl) rfl rfl e_S35 ?_
      refine g_goto (pc := 147) (tgt := 106) (dK D_Reader_nextToken_1 17 rfl) rfl ?_
      replace h := ih _ h
      exact h 
    · replace h := ifN h hc34
      obtain rfl := Option.some.inj h
      exact hx 
def jf_Reader_nextToken_59 (c0 : Nat) (S : St) : Option (St) := nm (u S c0 5 (g S c0 3)) fun S9 => if (g S9 c0 3) < (g S9 (tgt c0 0) 1) then (bnO (fn_Bytes_byteAt (tgt c0 0) (g S9 c0 3) S9) fun p10 => bnO (fn_Reader_isLetter p10 S9) fun p11 => if p11 = true then (bnO (lo_Reader_nextToken_106 c0 FU S9) fun p37 => nm (wr ((g p37 c0 3) - (g p37 c0 5))) fun v38 => if 8 < v38 then (nm (u p37 c0 4 4) fun S39 => some S39) else (nm (u p37 c0 4 1) fun S40 => some S40)) else (bnO (fn_Bytes_byteAt (tgt c0 0) (g S9 c0 3) S9) fun p13 => bnO (fn_Reader_isDigit p13 S9) fun p14 => if p14 = true then (bnO (lo_Reader_nextToken_193 c0 FU S9) fun p27 => nm (wr ((g p27 c0 3) - (g p27 c0 5))) fun v28 => if 4 < v28 then (nm (u p27 c0 4 4) fun S29 => some S29) else (nm (u p27 c0 4 2) fun S30 => some S30)) else (bnO (fn_Bytes_byteAt (tgt c0 0) (g S9 c0 3) S9) fun p16 => if p16 = 59 then (nm (u S9 c0 4 3) fun S19 => nm (u S19 c0 3 ((g S19 c0 3) + 1)) fun S20 => some S20) else (nm (u S9 c0 4 4) fun S17 => nm (u S17 c0 3 ((g S17 c0 3) + 1)) fun S18 => some S18)))) else (nm (u S9 c0 4 0) fun S42 => some S42)
theorem tj_Reader_nextToken_59 {E : EV} {X : XT} {c0 : Nat} (hc0 : HC X 5 c0) {S : St} {q : St} (h : jf_Reader_nextToken_59 c0 S = some q) : Go E M_Reader_nextToken 0 0 59 [(0, .ref c0)] [] (WX X S) 0 0 (KU X q) := by
  unfold jf_Reader_nextToken_59 at h
  refine g_aloadn (pc := 59) (i0 := 0) (j := 0) (dK D_Reader_nextToken_0 27 rfl) rfl rfl ?_
  refine g_aloadn (pc := 60) (i0 := 0) (j := 0) (dK D_Reader_nextToken_0 28 rfl) rfl rfl ?_
  refine vg_getI (pc := 61) (ci := 5) (f := 3) (dK D_Reader_nextToken_0 29 rfl) q_347 hc0 (ltK rfl) (ltK rfl) rfl ?_
  refine nmE h (fun S9 e_S9 h => ?_)
  refine vg_putI (pc := 64) (ci := 5) (f := 5) (z := (g S c0 3)) (dK D_Reader_nextToken_0 30 rfl) q_349 hc0 (ltK rfl) (ltK rfl) rfl rfl e_S9 ?_
  refine g_aloadn (pc := 67) (i0 := 0) (j := 0) (dK D_Reader_nextToken_0 31 rfl) rfl rfl ?_
  refine vg_getI (pc := 68) (ci := 5) (f := 3) (dK D_Reader_nextToken_0 32 rfl) q_347 hc0 (ltK rfl) (ltK rfl) rfl ?_
  refine g_aloadn (pc := 71) (i0 := 0) (j := 0) (dK D_Reader_nextToken_0 33 rfl) rfl rfl ?_
  refine vg_getO (pc := 72) (ci := 5) (f := 0) (dK D_Reader_nextToken_0 34 rfl) q_342 hc0 (ltK rfl) (ltK rfl) rfl ?_
  refine vg_getI (pc := 75) (ci := 1) (f := 1) (dK D_Reader_nextToken_0 35 rfl) q_62 (hw_5_0 hc0) (ltK rfl) (ltK rfl) rfl ?_
  refine vg_icmp_lt (pc := 78) (t := 89) (dK D_Reader_nextToken_0 36 rfl) rfl (g_in _ _ _) (g_in _ _ _) (fun hc43 => ?_) (fun hc43 => ?_)
  · replace h := ifP h hc43
    refine g_aloadn (pc := 89) (i0 := 0) (j := 0) (dK D_Reader_nextToken_0 41 rfl) rfl rfl ?_
    refine vg_getO (pc := 90) (ci := 5) (f := 0) (dK D_Reader_nextToken_0 42 rfl) q_342 hc0 (ltK rfl) (ltK rfl) rfl ?_
    refine g_aloadn (pc := 93) (i0 := 0) (j := 0) (dK D_Reader_nextToken_0 43 rfl) rfl rfl ?_
    refine vg_getI (pc := 94) (ci := 5) (f := 3) (dK D_Reader_nextToken_0 44 rfl) q_347 hc0 (ltK rfl) (ltK rfl) rfl ?_
    refine bnE h (fun p10 e_p10 h => ?_)
    refine vg_cV (pc := 97) (As := [V (g S9 c0 3)]) (rest := []) (mc' := 0) (ms' := 0) (dK D_Reader_nextToken_0 45 rfl) K_Reader_198 (fitK rfl) (ltK rfl) (hw_5_0 hc0) rfl (leK rfl) (leK rfl) (leK rfl) (tf_Bytes_byteAt (hw_5_0 hc0) (g_in _ _ _) e_p10) (kcI (fun h_p10 => ?_))
    refine bnE h (fun p11 e_p11 h => ?_)
    refine vg_cS (pc := 100) (As := [V p10]) (rest := []) (mc' := 0) (ms' := 0) (dK D_Reader_nextToken_0 46 rfl) K_Reader_202 (fitK rfl) rfl (leK rfl) (leK rfl) (leK rfl) (tf_Reader_isLetter h_p10 e_p11) (kcB ?_)
    refine vg_ifB_eq (pc := 103) (b := p11) (t := 176) (dK D_Reader_nextToken_0 47 rfl) rfl (fun hc12 => ?_) (fun hc12 => ?_)
    · replace h := ifP h hc12
      refine bnE h (fun p37 e_p37 h => ?_)
      refine tl_Reader_nextToken_106 hc0 ?_ FU S9 e_p37 
      refine g_aloadn (pc := 150) (i0 := 0) (j := 0) (dK D_Reader_nextToken_1 18 rfl) rfl rfl ?_
      refine g_aloadn (pc := 151) (i0 := 0) (j := 0) (dK D_Reader_nextToken_1 19 rfl) rfl rfl ?_
      refine vg_getI (pc := 152) (ci := 5) (f := 3) (dK D_Reader_nextToken_1 20 rfl) q_347 hc0 (ltK rfl) (ltK rfl) rfl ?_
      refine g_aloadn (pc := 155) (i0 := 0) (j := 0) (dK D_Reader_nextToken_1 21 rfl) rfl rfl ?_
      refine vg_getI (pc := 156) (ci := 5) (f := 5) (dK D_Reader_nextToken_1 22 rfl) q_349 hc0 (ltK rfl) (ltK rfl) rfl ?_
      refine vg_isub (pc := 159) (dK D_Reader_nextToken_1 23 rfl) ?_
      refine vg_bipush (pc := 160) (dK D_Reader_nextToken_1 24 rfl) rfl ?_
      refine nmE h (fun v38 e_v38 h => ?_)
      refine gsk (st' := [V 8, V v38, .ref c0]) (by rw [Vn e_v38]) ?_
      refine vg_icmp_gt (pc := 162) (t := 169) (dK D_Reader_nextToken_1 25 rfl) rfl (Vn_in e_v38) (inRk rfl) (fun hc41 => ?_) (fun hc41 => ?_)
      · replace h := ifP h hc41
        refine vg_iconst (pc := 169) (dK D_Reader_nextToken_1 28 rfl) ?_
        refine nmE h (fun S39 e_S39 h => ?_)
        refine vg_putI (pc := 170) (ci := 5) (f := 4) (z := 4) (dK D_Reader_nextToken_1 29 rfl) q_348 hc0 (ltK rfl) (ltK rfl) rfl rfl e_S39 ?_
        refine g_goto (pc := 173) (tgt := 297) (dK D_Reader_nextToken_1 30 rfl) rfl ?_
        exact g_return (pc := 297) (dK D_Reader_nextToken_2 39 rfl) rfl (leK rfl) (leK rfl) (fun _ => rfl) (by obtain rfl := Option.some.inj h; exact ⟨rfl, rfl⟩)
      · replace h := ifN h hc41
        refine vg_iconst (pc := 165) (dK D_Reader_nextToken_1 26 rfl) ?_
        refine g_goto (pc := 166) (tgt := 170) (dK D_Reader_nextToken_1 27 rfl) rfl ?_
        refine nmE h (fun S40 e_S40 h => ?_)
        refine vg_putI (pc := 170) (ci := 5) (f := 4) (z := 1) (dK D_Reader_nextToken_1 29 rfl) q_348 hc0 (ltK rfl) (ltK rfl) rfl rfl e_S40 ?_
        refine g_goto (pc := 173) (tgt := 297) (dK D_Reader_nextToken_1 30 rfl) rfl ?_
        exact g_return (pc := 297) (dK D_Reader_nextToken_2 39 rfl) rfl (leK rfl) (leK rfl) (fun _ => rfl) (by obtain rfl := Option.some.inj h; exact ⟨rfl, rfl⟩)
    · replace h := ifN h hc12
      refine g_aloadn (pc := 176) (i0 := 0) (j := 0) (dK D_Reader_nextToken_1 31 rfl) rfl rfl ?_
      refine vg_getO (pc := 177) (ci := 5) (f := 0) (dK D_Reader_nextToken_1 32 rfl) q_342 hc0 (ltK rfl) (ltK rfl) rfl ?_
      refine g_aloadn (pc := 180) (i0 := 0) (j := 0) (dK D_Reader_nextToken_1 33 rfl) rfl rfl ?_
      refine vg_getI (pc := 181) (ci := 5) (f := 3) (dK D_Reader_nextToken_1 34 rfl) q_347 hc0 (ltK rfl) (ltK rfl) rfl ?_
      refine bnE h (fun p13 e_p13 h => ?_)
      refine vg_cV (pc := 184) (As := [V (g S9 c0 3)]) (rest := []) (mc' := 0) (ms' := 0) (dK D_Reader_nextToken_1 35 rfl) K_Reader_198 (fitK rfl) (ltK rfl) (hw_5_0 hc0) rfl (leK rfl) (leK rfl) (leK rfl) (tf_Bytes_byteAt (hw_5_0 hc0) (g_in _ _ _) e_p13) (kcI (fun h_p13 => ?_))
      refine bnE h (fun p14 e_p14 h => ?_)
      refine vg_cS (pc := 187) (As := [V p13]) (rest := []) (mc' := 0) (ms' := 0) (dK D_Reader_nextToken_1 36 rfl) K_Reader_205 (fitK rfl) rfl (leK rfl) (leK rfl) (leK rfl) (tf_Reader_isDigit h_p13 e_p14) (kcB ?_)
      refine vg_ifB_eq (pc := 190) (b := p14) (t := 262) (dK D_Reader_nextToken_1 37 rfl) rfl (fun hc15 => ?_) (fun hc15 => ?_)
      · replace h := ifP h hc15
        refine bnE h (fun p27 e_p27 h => ?_)
        refine tl_Reader_nextToken_193 hc0 ?_ FU S9 e_p27 
        refine g_aloadn (pc := 237) (i0 := 0) (j := 0) (dK D_Reader_nextToken_2 8 rfl) rfl rfl ?_
        refine g_aloadn (pc := 238) (i0 := 0) (j := 0) (dK D_Reader_nextToken_2 9 rfl) rfl rfl ?_
        refine vg_getI (pc := 239) (ci := 5) (f := 3) (dK D_Reader_nextToken_2 10 rfl) q_347 hc0 (ltK rfl) (ltK rfl) rfl ?_
        refine g_aloadn (pc := 242) (i0 := 0) (j := 0) (dK D_Reader_nextToken_2 11 rfl) rfl rfl ?_
        refine vg_getI (pc := 243) (ci := 5) (f := 5) (dK D_Reader_nextToken_2 12 rfl) q_349 hc0 (ltK rfl) (ltK rfl) rfl ?_
        refine vg_isub (pc := 246) (dK D_Reader_nextToken_2 13 rfl) ?_
        refine vg_iconst (pc := 247) (dK D_Reader_nextToken_2 14 rfl) ?_
        refine nmE h (fun v28 e_v28 h => ?_)
        refine gsk (st' := [V 4, V v28, .ref c0]) (by rw [Vn e_v28]) ?_
        refine vg_icmp_gt (pc := 248) (t := 255) (dK D_Reader_nextToken_2 15 rfl) rfl (Vn_in e_v28) (inRk rfl) (fun hc31 => ?_) (fun hc31 => ?_)
        · replace h := ifP h hc31
          refine vg_iconst (pc := 255) (dK D_Reader_nextToken_2 18 rfl) ?_
          refine nmE h (fun S29 e_S29 h => ?_)
          refine vg_putI (pc := 256) (ci := 5) (f := 4) (z := 4) (dK D_Reader_nextToken_2 19 rfl) q_348 hc0 (ltK rfl) (ltK rfl) rfl rfl e_S29 ?_
          refine g_goto (pc := 259) (tgt := 297) (dK D_Reader_nextToken_2 20 rfl) rfl ?_
          exact g_return (pc := 297) (dK D_Reader_nextToken_2 39 rfl) rfl (leK rfl) (leK rfl) (fun _ => rfl) (by obtain rfl := Option.some.inj h; exact ⟨rfl, rfl⟩)
        · replace h := ifN h hc31
          refine vg_iconst (pc := 251) (dK D_Reader_nextToken_2 16 rfl) ?_
          refine g_goto (pc := 252) (tgt := 256) (dK D_Reader_nextToken_2 17 rfl) rfl ?_
          refine nmE h (fun S30 e_S30 h => ?_)
          refine vg_putI (pc := 256) (ci := 5) (f := 4) (z := 2) (dK D_Reader_nextToken_2 19 rfl) q_348 hc0 (ltK rfl) (ltK rfl) rfl rfl e_S30 ?_
          refine g_goto (pc := 259) (tgt := 297) (dK D_Reader_nextToken_2 20 rfl) rfl ?_
          exact g_return (pc := 297) (dK D_Reader_nextToken_2 39 rfl) rfl (leK rfl) (leK rfl) (fun _ => rfl) (by obtain rfl := Option.some.inj h; exact ⟨rfl, rfl⟩)
      · replace h := ifN h hc15
        refine g_aloadn (pc := 262) (i0 := 0) (j := 0) (dK D_Reader_nextToken_2 21 rfl) rfl rfl ?_
        refine g_aloadn (pc := 263) (i0 := 0) (j := 0) (dK D_Reader_nextToken_2 22 rfl) rfl rfl ?_
        refine vg_getO (pc := 264) (ci := 5) (f := 0) (dK D_Reader_nextToken_2 23 rfl) q_342 hc0 (ltK rfl) (ltK rfl) rfl ?_
        refine g_aloadn (pc := 267) (i0 := 0) (j := 0) (dK D_Reader_nextToken_2 24 rfl) rfl rfl ?_
        refine vg_getI (pc := 268) (ci := 5) (f := 3) (dK D_Reader_nextToken_2 25 rfl) q_347 hc0 (ltK rfl) (ltK rfl) rfl ?_
        refine bnE h (fun p16 e_p16 h => ?_)
        refine vg_cV (pc := 271) (As := [V (g S9 c0 3)]) (rest := [.ref c0]) (mc' := 0) (ms' := 0) (dK D_Reader_nextToken_2 26 rfl) K_Reader_198 (fitK rfl) (ltK rfl) (hw_5_0 hc0) rfl (leK rfl) (leK rfl) (leK rfl) (tf_Bytes_byteAt (hw_5_0 hc0) (g_in _ _ _) e_p16) (kcI (fun h_p16 => ?_))
        refine vg_bipush (pc := 274) (dK D_Reader_nextToken_2 27 rfl) rfl ?_
        refine vg_icmp_ne (pc := 276) (t := 283) (dK D_Reader_nextToken_2 28 rfl) rfl h_p16 (inRk rfl) (fun hc21 => ?_) (fun hc21 => ?_)
        · replace h := ifN h hc21
          refine vg_iconst (pc := 283) (dK D_Reader_nextToken_2 31 rfl) ?_
          refine nmE h (fun S17 e_S17 h => ?_)
          refine vg_putI (pc := 284) (ci := 5) (f := 4) (z := 4) (dK D_Reader_nextToken_2 32 rfl) q_348 hc0 (ltK rfl) (ltK rfl) rfl rfl e_S17 ?_
          refine g_aloadn (pc := 287) (i0 := 0) (j := 0) (dK D_Reader_nextToken_2 33 rfl) rfl rfl ?_
          refine g_dup (pc := 288) (dK D_Reader_nextToken_2 34 rfl) rfl ?_
          refine vg_getI (pc := 289) (ci := 5) (f := 3) (dK D_Reader_nextToken_2 35 rfl) q_347 hc0 (ltK rfl) (ltK rfl) rfl ?_
          refine vg_iconst (pc := 292) (dK D_Reader_nextToken_2 36 rfl) ?_
          refine vg_iadd (pc := 293) (dK D_Reader_nextToken_2 37 rfl) ?_
          refine nmE h (fun S18 e_S18 h => ?_)
          refine vg_putI (pc := 294) (ci := 5) (f := 3) (z := ((g S17 c0 3) + 1)) (dK D_Reader_nextToken_2 38 rfl) q_347 hc0 (ltK rfl) (ltK rfl) rfl rfl e_S18 ?_
          exact g_return (pc := 297) (dK D_Reader_nextToken_2 39 rfl) rfl (leK rfl) (leK rfl) (fun _ => rfl) (by obtain rfl := Option.some.inj h; exact ⟨rfl, rfl⟩)
        · replace h := ifP h hc21
          refine vg_iconst (pc := 279) (dK D_Reader_nextToken_2 29 rfl) ?_
          refine g_goto (pc := 280) (tgt := 284) (dK D_Reader_nextToken_2 30 rfl) rfl ?_
          refine nmE h (fun S19 e_S19 h => ?_)
          refine vg_putI (pc := 284) (ci := 5) (f := 4) (z := 3) (dK D_Reader_nextToken_2 32 rfl) q_348 hc0 (ltK rfl) (ltK rfl) rfl rfl e_S19 ?_
          refine g_aloadn (pc := 287) (i0 := 0) (j := 0) (dK D_Reader_nextToken_2 33 rfl) rfl rfl ?_
          refine g_dup (pc := 288) (dK D_Reader_nextToken_2 34 rfl) rfl ?_
          refine vg_getI (pc := 289) (ci := 5) (f := 3) (dK D_Reader_nextToken_2 35 rfl) q_347 hc0 (ltK rfl) (ltK rfl) rfl ?_
          refine vg_iconst (pc := 292) (dK D_Reader_nextToken_2 36 rfl) ?_
          refine vg_iadd (pc := 293) (dK D_Reader_nextToken_2 37 rfl) ?_
          refine nmE h (fun S20 e_S20 h => ?_)
          refine vg_putI (pc := 294) (ci := 5) (f := 3) (z := ((g S19 c0 3) + 1)) (dK D_Reader_nextToken_2 38 rfl) q_347 hc0 (ltK rfl) (ltK rfl) rfl rfl e_S20 ?_
          exact g_return (pc := 297) (dK D_Reader_nextToken_2 39 rfl) rfl (leK rfl) (leK rfl) (fun _ => rfl) (by obtain rfl := Option.some.inj h; exact ⟨rfl, rfl⟩)
  · replace h := ifN h hc43
    refine g_aloadn (pc := 81) (i0 := 0) (j := 0) (dK D_Reader_nextToken_0 37 rfl) rfl rfl ?_
    refine vg_iconst (pc := 82) (dK D_Reader_nextToken_0 38 rfl) ?_
    refine nmE h (fun S42 e_S42 h => ?_)
    refine vg_putI (pc := 83) (ci := 5) (f := 4) (z := 0) (dK D_Reader_nextToken_0 39 rfl) q_348 hc0 (ltK rfl) (ltK rfl) rfl rfl e_S42 ?_
    refine g_goto (pc := 86) (tgt := 297) (dK D_Reader_nextToken_0 40 rfl) rfl ?_
    exact g_return (pc := 297) (dK D_Reader_nextToken_2 39 rfl) rfl (leK rfl) (leK rfl) (fun _ => rfl) (by obtain rfl := Option.some.inj h; exact ⟨rfl, rfl⟩)
def fn_Reader_nextToken (c0 : Nat) (S : St) : Option (St) := bnO (lo_Reader_nextToken_0 c0 FU S) fun p8 => jf_Reader_nextToken_59 c0 p8
theorem tf_Reader_nextToken {E : EV} {X : XT} {c0 : Nat} (hc0 : HC X 5 c0) {S : St} {q : St} (h : fn_Reader_nextToken c0 S = some q) : Ev E M_Reader_nextToken [.ref c0] (WX X S) 0 0 (KU X q) := by
  refine Ev.of pn_Reader rfl (leK rfl) ?_
  show Go E M_Reader_nextToken 0 0 0 [(0, .ref c0)] [] (WX X S) 0 0 (KU X q)
  unfold fn_Reader_nextToken at h
  refine bnE h (fun p8 e_p8 h => ?_)
  refine tl_Reader_nextToken_0 hc0 ?_ FU S e_p8 
  exact tj_Reader_nextToken_59 hc0 h
def lb_Reader_isWord_28 (c0 : Nat) (w1 : Nat) (S : St) (go : Int → Option ((Bool) ⊕ (Unit))) (a2 : Int) : Option ((Bool) ⊕ (Unit)) := bnO (fn_String_length w1 S) fun p3 => if p3 ≤ a2 then (some (.inr ())) else (nm (wr ((g S c0 5) + a2)) fun v4 => bnO (fn_Bytes_byteAt (tgt c0 0) v4 S) fun p5 => bnO (fn_String_charAt w1 a2 S) fun p6 => if p5 = p6 then (nm (wr (a2 + 1)) fun v7 => go v7) else (some (.inl false)))
def lo_Reader_isWord_28 (c0 : Nat) (w1 : Nat) (S : St) : Nat → Int → Option ((Bool) ⊕ (Unit)) := lp fun go p => lb_Reader_isWord_28 c0 w1 S go p
theorem tl_Reader_isWord_28 {E : EV} {X : XT} {c0 : Nat} (hc0 : HC X 5 c0) {w1 : Nat} (hw1 : w1 < nLit) {S : St} {K : RK → PS → Prop} {q : (Bool) ⊕ (Unit)} (hx : ∀ p, q = .inr p → Go E M_Reader_isWord 0 0 65 [] [] (WX X S) 0 0 K) (hr : ∀ p, q = .inl p → K (.inl (some (V (bi p)))) (WX X S)) : ∀ n a, lo_Reader_isWord_28 c0 w1 S n a = some q → inR a → Go E M_Reader_isWord 0 0 28 [(0, .ref c0), (1, .ref (XB + w1)), (2, V a)] [] (WX X S) 0 0 K := by
  refine lp_ind (P := fun a : Int => inR a → Go E M_Reader_isWord 0 0 28 [(0, .ref c0), (1, .ref (XB + w1)), (2, V a)] [] (WX X S) 0 0 K) (fun go ih a2 h => ?_)
  intro ha2
  show Go E M_Reader_isWord 0 0 28 [(0, .ref c0), (1, .ref (XB + w1)), (2, V a2)] [] (WX X S) 0 0 K
  replace h : lb_Reader_isWord_28 c0 w1 S go a2 = some q := h
  unfold lb_Reader_isWord_28 at h
  refine g_iloadn (pc := 28) (i0 := 2) (j := 2) (dK D_Reader_isWord 16 rfl) rfl rfl ?_
  refine g_aloadn (pc := 29) (i0 := 1) (j := 1) (dK D_Reader_isWord 17 rfl) rfl rfl ?_
  refine bnE h (fun p3 e_p3 h => ?_)
  refine vg_cVS (pc := 30) (As := []) (rest := [V a2]) (mc' := 0) (ms' := 0) (dK D_Reader_isWord 18 rfl) K_Reader_208 (fitK rfl) hw1 rfl (leK rfl) (leK rfl) (leK rfl) (tf_String_length hw1 e_p3) (kcI (fun h_p3 => ?_))
  refine vg_icmp_ge (pc := 33) (t := 65) (dK D_Reader_isWord 19 rfl) rfl ha2 h_p3 (fun hc9 => ?_) (fun hc9 => ?_)
  · replace h := ifP h hc9
    refine gL_weak (ls' := []) sbn ?_
    exact hx _ (Option.some.inj h).symm 
  · replace h := ifN h hc9
    refine g_aloadn (pc := 36) (i0 := 0) (j := 0) (dK D_Reader_isWord 20 rfl) rfl rfl ?_
    refine vg_getO (pc := 37) (ci := 5) (f := 0) (dK D_Reader_isWord 21 rfl) q_342 hc0 (ltK rfl) (ltK rfl) rfl ?_
    refine g_aloadn (pc := 40) (i0 := 0) (j := 0) (dK D_Reader_isWord 22 rfl) rfl rfl ?_
    refine vg_getI (pc := 41) (ci := 5) (f := 5) (dK D_Reader_isWord 23 rfl) q_349 hc0 (ltK rfl) (ltK rfl) rfl ?_
    refine g_iloadn (pc := 44) (i0 := 2) (j := 2) (dK D_Reader_isWord 24 rfl) rfl rfl ?_
    refine vg_iadd (pc := 45) (dK D_Reader_isWord 25 rfl) ?_
    refine nmE h (fun v4 e_v4 h => ?_)
    refine gtop e_v4 ?_
    refine bnE h (fun p5 e_p5 h => ?_)
    refine vg_cV (pc := 46) (As := [V v4]) (rest := []) (mc' := 0) (ms' := 0) (dK D_Reader_isWord 26 rfl) K_Reader_198 (fitK rfl) (ltK rfl) (hw_5_0 hc0) rfl (leK rfl) (leK rfl) (leK rfl) (tf_Bytes_byteAt (hw_5_0 hc0) (Vn_in e_v4) e_p5) (kcI (fun h_p5 => ?_))
    refine g_aloadn (pc := 49) (i0 := 1) (j := 1) (dK D_Reader_isWord 27 rfl) rfl rfl ?_
    refine g_iloadn (pc := 50) (i0 := 2) (j := 2) (dK D_Reader_isWord 28 rfl) rfl rfl ?_
    refine bnE h (fun p6 e_p6 h => ?_)
    refine vg_cVS (pc := 51) (As := [V a2]) (rest := [V p5]) (mc' := 0) (ms' := 0) (dK D_Reader_isWord 29 rfl) K_Reader_212 (fitK rfl) hw1 rfl (leK rfl) (leK rfl) (leK rfl) (tf_String_charAt hw1 ha2 e_p6) (kcI (fun h_p6 => ?_))
    refine vg_icmp_eq (pc := 54) (t := 59) (dK D_Reader_isWord 30 rfl) rfl h_p5 h_p6 (fun hc8 => ?_) (fun hc8 => ?_)
    · replace h := ifP h hc8
      refine nmE h (fun v7 e_v7 h => ?_)
      refine vg_iinc (pc := 59) (j := 2) (a := a2) (z := 1) (ls2 := [(2, V v7), (0, .ref c0), (1, .ref (XB + w1))]) (dK D_Reader_isWord 33 rfl) rfl e_v7 (ltK rfl) rfl ?_
      refine g_goto (pc := 62) (tgt := 28) (dK D_Reader_isWord 34 rfl) rfl ?_
      refine gL_weak (ls' := [(0, .ref c0), (1, .ref (XB + w1)), (2, V v7)]) (sbc 1 rfl (sbc 2 rfl (sbc 0 rfl sbn))) ?_
      replace h := ih _ h
      exact h (Vn_in e_v7)
    · replace h := ifN h hc8
      refine vg_iconst (pc := 57) (dK D_Reader_isWord 31 rfl) ?_
      exact vg_iretB (pc := 58) (b := false) (dK D_Reader_isWord 32 rfl) rfl (leK rfl) (leK rfl) (fun _ => rfl) (hr _ (Option.some.inj h).symm)
def fn_Reader_isWord (c0 : Nat) (w1 : Nat) (S : St) : Option (Bool) := if (g S c0 4) = 1 then (bnO (fn_String_length w1 S) fun p1 => nm (wr ((g S c0 3) - (g S c0 5))) fun v2 => if v2 = p1 then (bnS (lo_Reader_isWord_28 c0 w1 S FU 0) (fun p11 => some p11) fun p10 => some true) else (some false)) else (some false)
theorem tf_Reader_isWord {E : EV} {X : XT} {c0 : Nat} (hc0 : HC X 5 c0) {w1 : Nat} (hw1 : w1 < nLit) {S : St} {q : Bool} (h : fn_Reader_isWord c0 w1 S = some q) : Ev E M_Reader_isWord [.ref c0, .ref (XB + w1)] (WX X S) 0 0 (KB X q S) := by
  refine Ev.of pn_Reader rfl (leK rfl) ?_
  show Go E M_Reader_isWord 0 0 0 [(0, .ref c0), (1, .ref (XB + w1))] [] (WX X S) 0 0 (KB X q S)
  unfold fn_Reader_isWord at h
  refine g_aloadn (pc := 0) (i0 := 0) (j := 0) (dK D_Reader_isWord 0 rfl) rfl rfl ?_
  refine vg_getI (pc := 1) (ci := 5) (f := 4) (dK D_Reader_isWord 1 rfl) q_348 hc0 (ltK rfl) (ltK rfl) rfl ?_
  refine vg_iconst (pc := 4) (dK D_Reader_isWord 2 rfl) ?_
  refine vg_icmp_ne (pc := 5) (t := 24) (dK D_Reader_isWord 3 rfl) rfl (g_in _ _ _) (inRk rfl) (fun hc13 => ?_) (fun hc13 => ?_)
  · replace h := ifN h hc13
    refine vg_iconst (pc := 24) (dK D_Reader_isWord 12 rfl) ?_
    exact vg_iretB (pc := 25) (b := false) (dK D_Reader_isWord 13 rfl) rfl (leK rfl) (leK rfl) (fun _ => rfl) (by obtain rfl := Option.some.inj h; exact ⟨rfl, rfl⟩)
  · replace h := ifP h hc13
    refine g_aloadn (pc := 8) (i0 := 0) (j := 0) (dK D_Reader_isWord 4 rfl) rfl rfl ?_
    refine vg_getI (pc := 9) (ci := 5) (f := 3) (dK D_Reader_isWord 5 rfl) q_347 hc0 (ltK rfl) (ltK rfl) rfl ?_
    refine g_aloadn (pc := 12) (i0 := 0) (j := 0) (dK D_Reader_isWord 6 rfl) rfl rfl ?_
    refine vg_getI (pc := 13) (ci := 5) (f := 5) (dK D_Reader_isWord 7 rfl) q_349 hc0 (ltK rfl) (ltK rfl) rfl ?_
    refine vg_isub (pc := 16) (dK D_Reader_isWord 8 rfl) ?_
    refine g_aloadn (pc := 17) (i0 := 1) (j := 1) (dK D_Reader_isWord 9 rfl) rfl rfl ?_
    refine bnE h (fun p1 e_p1 h => ?_)
    refine vg_cVS (pc := 18) (As := []) (rest := [V ((g S c0 3) - (g S c0 5))]) (mc' := 0) (ms' := 0) (dK D_Reader_isWord 10 rfl) K_Reader_208 (fitK rfl) hw1 rfl (leK rfl) (leK rfl) (leK rfl) (tf_String_length hw1 e_p1) (kcI (fun h_p1 => ?_))
    refine nmE h (fun v2 e_v2 h => ?_)
    refine gsk (st' := [V p1, V v2]) (by rw [Vn e_v2]) ?_
    refine vg_icmp_eq (pc := 21) (t := 26) (dK D_Reader_isWord 11 rfl) rfl (Vn_in e_v2) h_p1 (fun hc12 => ?_) (fun hc12 => ?_)
    · replace h := ifP h hc12
      refine vg_iconst (pc := 26) (dK D_Reader_isWord 14 rfl) ?_
      refine g_istoren (pc := 27) (i0 := 2) (ls2 := [(2, V 0), (0, .ref c0), (1, .ref (XB + w1))]) (dK D_Reader_isWord 15 rfl) rfl (ltK rfl) rfl ?_
      refine bnSE h (fun p11 e_p11 h => ?_) (fun p10 e_p10 h => ?_)
      · refine gL_weak (ls' := [(0, .ref c0), (1, .ref (XB + w1)), (2, V 0)]) (sbc 1 rfl (sbc 2 rfl (sbc 0 rfl sbn))) ?_
        refine tl_Reader_isWord_28 hc0 hw1 (fun _ e => slr e) (fun p e => ?_) FU 0 e_p11 (inRk rfl)
        have e := Sum.inl.inj e
        subst e
        exact (by obtain rfl := Option.some.inj h; exact ⟨rfl, rfl⟩)
      · refine gL_weak (ls' := [(0, .ref c0), (1, .ref (XB + w1)), (2, V 0)]) (sbc 1 rfl (sbc 2 rfl (sbc 0 rfl sbn))) ?_
        refine tl_Reader_isWord_28 hc0 hw1 (fun p e => ?_) (fun _ e => srl e) FU 0 e_p10 (inRk rfl)
        have e := Sum.inr.inj e
        subst e
        refine vg_iconst (pc := 65) (dK D_Reader_isWord 35 rfl) ?_
        exact vg_iretB (pc := 66) (b := true) (dK D_Reader_isWord 36 rfl) rfl (leK rfl) (leK rfl) (fun _ => rfl) (by obtain rfl := Option.some.inj h; exact ⟨rfl, rfl⟩)
    · replace h := ifN h hc12
      refine vg_iconst (pc := 24) (dK D_Reader_isWord 12 rfl) ?_
      exact vg_iretB (pc := 25) (b := false) (dK D_Reader_isWord 13 rfl) rfl (leK rfl) (leK rfl) (fun _ => rfl) (by obtain rfl := Option.some.inj h; exact ⟨rfl, rfl⟩)
def fn_Reader_fail (c0 : Nat) (a1 : Int) (S : St) : Option (Bool × St) := nm (u S c0 6 a1) fun S1 => nm (u S1 c0 7 (g S1 c0 5)) fun S2 => some (false, S2)
theorem tf_Reader_fail {E : EV} {X : XT} {c0 : Nat} (hc0 : HC X 5 c0) {a1 : Int} (ha1 : inR a1) {S : St} {q : Bool × St} (h : fn_Reader_fail c0 a1 S = some q) : Ev E M_Reader_fail [.ref c0, V a1] (WX X S) 0 0 (KB X q.1 q.2) := by
  refine Ev.of pn_Reader rfl (leK rfl) ?_
  show Go E M_Reader_fail 0 0 0 [(0, .ref c0), (1, V a1)] [] (WX X S) 0 0 (KB X q.1 q.2)
  unfold fn_Reader_fail at h
  refine g_aloadn (pc := 0) (i0 := 0) (j := 0) (dK D_Reader_fail 0 rfl) rfl rfl ?_
  refine g_iloadn (pc := 1) (i0 := 1) (j := 1) (dK D_Reader_fail 1 rfl) rfl rfl ?_
  refine nmE h (fun S1 e_S1 h => ?_)
  refine vg_putI (pc := 2) (ci := 5) (f := 6) (z := a1) (dK D_Reader_fail 2 rfl) q_350 hc0 (ltK rfl) (ltK rfl) rfl rfl e_S1 ?_
  refine g_aloadn (pc := 5) (i0 := 0) (j := 0) (dK D_Reader_fail 3 rfl) rfl rfl ?_
  refine g_aloadn (pc := 6) (i0 := 0) (j := 0) (dK D_Reader_fail 4 rfl) rfl rfl ?_
  refine vg_getI (pc := 7) (ci := 5) (f := 5) (dK D_Reader_fail 5 rfl) q_349 hc0 (ltK rfl) (ltK rfl) rfl ?_
  refine nmE h (fun S2 e_S2 h => ?_)
  refine vg_putI (pc := 10) (ci := 5) (f := 7) (z := (g S1 c0 5)) (dK D_Reader_fail 6 rfl) q_352 hc0 (ltK rfl) (ltK rfl) rfl rfl e_S2 ?_
  refine vg_iconst (pc := 13) (dK D_Reader_fail 7 rfl) ?_
  exact vg_iretB (pc := 14) (b := false) (dK D_Reader_fail 8 rfl) rfl (leK rfl) (leK rfl) (fun _ => rfl) (by obtain rfl := Option.some.inj h; exact ⟨rfl, rfl⟩)
def lb_Reader_numberRead_7 (c0 : Nat) (S : St) (go : Int × Int → Option (Int)) (a1 : Int) (a2 : Int) : Option (Int) := if (g S c0 3) ≤ a2 then (some a1) else (bnO (fn_Bytes_byteAt (tgt c0 0) a2 S) fun p1 => nm (wr (((10 * a1) + p1) - 48)) fun v2 => nm (wr (a2 + 1)) fun v3 => go (v2, v3))
def lo_Reader_numberRead_7 (c0 : Nat) (S : St) : Nat → Int × Int → Option (Int) := lp fun go p => lb_Reader_numberRead_7 c0 S go p.1 p.2
theorem tl_Reader_numberRead_7 {E : EV} {X : XT} {c0 : Nat} (hc0 : HC X 5 c0) {S : St} {K : RK → PS → Prop} {q : Int} (hx : inR q → Go E M_Reader_numberRead 0 0 38 [(1, V q)] [] (WX X S) 0 0 K) : ∀ n a, lo_Reader_numberRead_7 c0 S n a = some q → inR a.1 → inR a.2 → Go E M_Reader_numberRead 0 0 7 [(0, .ref c0), (1, V a.1), (2, V a.2)] [] (WX X S) 0 0 K := by
  refine lp_ind (P := fun a : Int × Int => inR a.1 → inR a.2 → Go E M_Reader_numberRead 0 0 7 [(0, .ref c0), (1, V a.1), (2, V a.2)] [] (WX X S) 0 0 K) (fun go ih a h => ?_)
  obtain ⟨a1, a2⟩ := a
  intro ha1 ha2
  show Go E M_Reader_numberRead 0 0 7 [(0, .ref c0), (1, V a1), (2, V a2)] [] (WX X S) 0 0 K
  replace h : lb_Reader_numberRead_7 c0 S go a1 a2 = some q := h
  unfold lb_Reader_numberRead_7 at h
  refine g_iloadn (pc := 7) (i0 := 2) (j := 2) (dK D_Reader_numberRead 5 rfl) rfl rfl ?_
  refine g_aloadn (pc := 8) (i0 := 0) (j := 0) (dK D_Reader_numberRead 6 rfl) rfl rfl ?_
  refine vg_getI (pc := 9) (ci := 5) (f := 3) (dK D_Reader_numberRead 7 rfl) q_347 hc0 (ltK rfl) (ltK rfl) rfl ?_
  refine vg_icmp_ge (pc := 12) (t := 38) (dK D_Reader_numberRead 8 rfl) rfl ha2 (g_in _ _ _) (fun hc4 => ?_) (fun hc4 => ?_)
  · replace h := ifP h hc4
    obtain rfl := Option.some.inj h
    refine gL_weak (ls' := [(1, V a1)]) (sbc 1 rfl sbn) ?_
    exact hx ha1
  · replace h := ifN h hc4
    refine vg_bipush (pc := 15) (dK D_Reader_numberRead 9 rfl) rfl ?_
    refine g_iloadn (pc := 17) (i0 := 1) (j := 1) (dK D_Reader_numberRead 10 rfl) rfl rfl ?_
    refine vg_imul (pc := 18) (dK D_Reader_numberRead 11 rfl) ?_
    refine g_aloadn (pc := 19) (i0 := 0) (j := 0) (dK D_Reader_numberRead 12 rfl) rfl rfl ?_
    refine vg_getO (pc := 20) (ci := 5) (f := 0) (dK D_Reader_numberRead 13 rfl) q_342 hc0 (ltK rfl) (ltK rfl) rfl ?_
    refine g_iloadn (pc := 23) (i0 := 2) (j := 2) (dK D_Reader_numberRead 14 rfl) rfl rfl ?_
    refine bnE h (fun p1 e_p1 h => ?_)
    refine vg_cV (pc := 24) (As := [V a2]) (rest := [V (10 * a1)]) (mc' := 0) (ms' := 0) (dK D_Reader_numberRead 15 rfl) K_Reader_198 (fitK rfl) (ltK rfl) (hw_5_0 hc0) rfl (leK rfl) (leK rfl) (leK rfl) (tf_Bytes_byteAt (hw_5_0 hc0) ha2 e_p1) (kcI (fun h_p1 => ?_))
    refine vg_iadd (pc := 27) (dK D_Reader_numberRead 16 rfl) ?_
    refine vg_bipush (pc := 28) (dK D_Reader_numberRead 17 rfl) rfl ?_
    refine vg_isub (pc := 30) (dK D_Reader_numberRead 18 rfl) ?_
    refine nmE h (fun v2 e_v2 h => ?_)
    refine gtop e_v2 ?_
    refine g_istoren (pc := 31) (i0 := 1) (ls2 := [(1, V v2), (0, .ref c0), (2, V a2)]) (dK D_Reader_numberRead 19 rfl) rfl (ltK rfl) rfl ?_
    refine nmE h (fun v3 e_v3 h => ?_)
    refine vg_iinc (pc := 32) (j := 2) (a := a2) (z := 1) (ls2 := [(2, V v3), (1, V v2), (0, .ref c0)]) (dK D_Reader_numberRead 20 rfl) rfl e_v3 (ltK rfl) rfl ?_
    refine g_goto (pc := 35) (tgt := 7) (dK D_Reader_numberRead 21 rfl) rfl ?_
    refine gL_weak (ls' := [(0, .ref c0), (1, V v2), (2, V v3)]) (sbc 2 rfl (sbc 1 rfl (sbc 0 rfl sbn))) ?_
    replace h := ih _ h
    exact h (Vn_in e_v2) (Vn_in e_v3)
def fn_Reader_numberRead (c0 : Nat) (S : St) : Option (Int) := bnO (lo_Reader_numberRead_7 c0 S FU (0, (g S c0 5))) fun p5 => some p5
theorem tf_Reader_numberRead {E : EV} {X : XT} {c0 : Nat} (hc0 : HC X 5 c0) {S : St} {q : Int} (h : fn_Reader_numberRead c0 S = some q) : Ev E M_Reader_numberRead [.ref c0] (WX X S) 0 0 (KI X q S) := by
  refine Ev.of pn_Reader rfl (leK rfl) ?_
  show Go E M_Reader_numberRead 0 0 0 [(0, .ref c0)] [] (WX X S) 0 0 (KI X q S)
  unfold fn_Reader_numberRead at h
  refine vg_iconst (pc := 0) (dK D_Reader_numberRead 0 rfl) ?_
  refine g_istoren (pc := 1) (i0 := 1) (ls2 := [(1, V 0), (0, .ref c0)]) (dK D_Reader_numberRead 1 rfl) rfl (ltK rfl) rfl ?_
  refine g_aloadn (pc := 2) (i0 := 0) (j := 1) (dK D_Reader_numberRead 2 rfl) rfl rfl ?_
  refine vg_getI (pc := 3) (ci := 5) (f := 5) (dK D_Reader_numberRead 3 rfl) q_349 hc0 (ltK rfl) (ltK rfl) rfl ?_
  refine g_istoren (pc := 6) (i0 := 2) (ls2 := [(2, V (g S c0 5)), (1, V 0), (0, .ref c0)]) (dK D_Reader_numberRead 4 rfl) rfl (ltK rfl) rfl ?_
  refine bnE h (fun p5 e_p5 h => ?_)
  refine gL_weak (ls' := [(0, .ref c0), (1, V 0), (2, V (g S c0 5))]) (sbc 2 rfl (sbc 1 rfl (sbc 0 rfl sbn))) ?_
  refine tl_Reader_numberRead_7 hc0 (fun hx1_p5 => ?_) FU (0, (g S c0 5)) e_p5 (inRk rfl) (g_in _ _ _)
  refine g_iloadn (pc := 38) (i0 := 1) (j := 0) (dK D_Reader_numberRead 22 rfl) rfl rfl ?_
  exact vg_iretI (pc := 39) (r := p5) (dK D_Reader_numberRead 23 rfl) rfl (leK rfl) (leK rfl) (fun _ => rfl) (by obtain rfl := Option.some.inj h; exact ⟨rfl, hx1_p5, rfl⟩)
def fn_Reader_readNumber (c0 : Nat) (a1 : Int) (a2 : Int) (a3 : Int) (S : St) : Option (Bool × St) := bnO (fn_Reader_nextToken c0 S) fun p1 => if (g p1 c0 4) = 2 then (bnO (fn_Reader_numberRead c0 p1) fun p2 => if p2 < a2 then (bnO (fn_Reader_fail c0 2 p1) fun p3 => some (p3.1, p3.2)) else (if p2 ≤ a3 then (if 0 ≤ a1 ∧ a1 < 6 then (nm (u p1 (tgt c0 2) a1.toNat p2) fun S5 => some (true, S5)) else none) else (bnO (fn_Reader_fail c0 2 p1) fun p6 => some (p6.1, p6.2)))) else (bnO (fn_Reader_fail c0 1 p1) fun p9 => some (p9.1, p9.2))
theorem tf_Reader_readNumber {E : EV} {X : XT} {c0 : Nat} (hc0 : HC X 5 c0) {a1 : Int} (ha1 : inR a1) {a2 : Int} (ha2 : inR a2) {a3 : Int} (ha3 : inR a3) {S : St} {q : Bool × St} (h : fn_Reader_readNumber c0 a1 a2 a3 S = some q) : Ev E M_Reader_readNumber [.ref c0, V a1, V a2, V a3] (WX X S) 0 0 (KB X q.1 q.2) := by
  refine Ev.of pn_Reader rfl (leK rfl) ?_
  show Go E M_Reader_readNumber 0 0 0 [(0, .ref c0), (1, V a1), (2, V a2), (3, V a3)] [] (WX X S) 0 0 (KB X q.1 q.2)
  unfold fn_Reader_readNumber at h
  refine g_aloadn (pc := 0) (i0 := 0) (j := 0) (dK D_Reader_readNumber 0 rfl) rfl rfl ?_
  refine bnE h (fun p1 e_p1 h => ?_)
  refine vg_cV (pc := 1) (As := []) (rest := []) (mc' := 0) (ms' := 0) (dK D_Reader_readNumber 1 rfl) K_Reader_45 (fitK rfl) (ltK rfl) hc0 rfl (leK rfl) (leK rfl) (leK rfl) (tf_Reader_nextToken hc0 e_p1) (kcU ?_)
  refine g_aloadn (pc := 4) (i0 := 0) (j := 0) (dK D_Reader_readNumber 2 rfl) rfl rfl ?_
  refine vg_getI (pc := 5) (ci := 5) (f := 4) (dK D_Reader_readNumber 3 rfl) q_348 hc0 (ltK rfl) (ltK rfl) rfl ?_
  refine vg_iconst (pc := 8) (dK D_Reader_readNumber 4 rfl) ?_
  refine vg_icmp_eq (pc := 9) (t := 18) (dK D_Reader_readNumber 5 rfl) rfl (g_in _ _ _) (inRk rfl) (fun hc10 => ?_) (fun hc10 => ?_)
  · replace h := ifP h hc10
    refine g_aloadn (pc := 18) (i0 := 0) (j := 0) (dK D_Reader_readNumber 10 rfl) rfl rfl ?_
    refine bnE h (fun p2 e_p2 h => ?_)
    refine vg_cV (pc := 19) (As := []) (rest := []) (mc' := 0) (ms' := 0) (dK D_Reader_readNumber 11 rfl) K_Reader_188 (fitK rfl) (ltK rfl) hc0 rfl (leK rfl) (leK rfl) (leK rfl) (tf_Reader_numberRead hc0 e_p2) (kcI (fun h_p2 => ?_))
    refine g_istore (pc := 22) (ls2 := [(4, V p2), (0, .ref c0), (1, V a1), (2, V a2), (3, V a3)]) (dK D_Reader_readNumber 12 rfl) (ltK rfl) rfl ?_
    refine g_iload (pc := 24) (j := 0) (dK D_Reader_readNumber 13 rfl) rfl ?_
    refine g_iloadn (pc := 26) (i0 := 2) (j := 3) (dK D_Reader_readNumber 14 rfl) rfl rfl ?_
    refine vg_icmp_lt (pc := 27) (t := 36) (dK D_Reader_readNumber 15 rfl) rfl h_p2 ha2 (fun hc8 => ?_) (fun hc8 => ?_)
    · replace h := ifP h hc8
      refine g_aloadn (pc := 36) (i0 := 0) (j := 1) (dK D_Reader_readNumber 19 rfl) rfl rfl ?_
      refine vg_iconst (pc := 37) (dK D_Reader_readNumber 20 rfl) ?_
      refine bnE h (fun p3 e_p3 h => ?_)
      refine vg_cV (pc := 38) (As := [V 2]) (rest := []) (mc' := 0) (ms' := 0) (dK D_Reader_readNumber 21 rfl) K_Reader_68 (fitK rfl) (ltK rfl) hc0 rfl (leK rfl) (leK rfl) (leK rfl) (tf_Reader_fail hc0 (inRk rfl) e_p3) (kcB ?_)
      exact vg_iretB (pc := 41) (b := p3.1) (dK D_Reader_readNumber 22 rfl) rfl (leK rfl) (leK rfl) (fun _ => rfl) (by obtain rfl := Option.some.inj h; exact ⟨rfl, rfl⟩)
    · replace h := ifN h hc8
      refine g_iload (pc := 30) (j := 0) (dK D_Reader_readNumber 16 rfl) rfl ?_
      refine g_iloadn (pc := 32) (i0 := 3) (j := 4) (dK D_Reader_readNumber 17 rfl) rfl rfl ?_
      refine vg_icmp_le (pc := 33) (t := 42) (dK D_Reader_readNumber 18 rfl) rfl h_p2 ha3 (fun hc7 => ?_) (fun hc7 => ?_)
      · replace h := ifP h hc7
        refine g_aloadn (pc := 42) (i0 := 0) (j := 1) (dK D_Reader_readNumber 23 rfl) rfl rfl ?_
        refine vg_getA (pc := 43) (ci := 5) (f := 2) (dK D_Reader_readNumber 24 rfl) q_346 hc0 (ltK rfl) (ltK rfl) rfl ?_
        refine g_iloadn (pc := 46) (i0 := 1) (j := 2) (dK D_Reader_readNumber 25 rfl) rfl rfl ?_
        refine g_iload (pc := 47) (j := 0) (dK D_Reader_readNumber 26 rfl) rfl ?_
        refine gdE h (fun hi4 h => ?_)
        refine nmE h (fun S5 e_S5 h => ?_)
        refine vg_iastore (pc := 49) (z := p2) (dK D_Reader_readNumber 27 rfl) (hw_5_2 hc0) rfl hi4 rfl e_S5 ?_
        refine vg_iconst (pc := 50) (dK D_Reader_readNumber 28 rfl) ?_
        exact vg_iretB (pc := 51) (b := true) (dK D_Reader_readNumber 29 rfl) rfl (leK rfl) (leK rfl) (fun _ => rfl) (by obtain rfl := Option.some.inj h; exact ⟨rfl, rfl⟩)
      · replace h := ifN h hc7
        refine g_aloadn (pc := 36) (i0 := 0) (j := 1) (dK D_Reader_readNumber 19 rfl) rfl rfl ?_
        refine vg_iconst (pc := 37) (dK D_Reader_readNumber 20 rfl) ?_
        refine bnE h (fun p6 e_p6 h => ?_)
        refine vg_cV (pc := 38) (As := [V 2]) (rest := []) (mc' := 0) (ms' := 0) (dK D_Reader_readNumber 21 rfl) K_Reader_68 (fitK rfl) (ltK rfl) hc0 rfl (leK rfl) (leK rfl) (leK rfl) (tf_Reader_fail hc0 (inRk rfl) e_p6) (kcB ?_)
        exact vg_iretB (pc := 41) (b := p6.1) (dK D_Reader_readNumber 22 rfl) rfl (leK rfl) (leK rfl) (fun _ => rfl) (by obtain rfl := Option.some.inj h; exact ⟨rfl, rfl⟩)
  · replace h := ifN h hc10
    refine g_aloadn (pc := 12) (i0 := 0) (j := 0) (dK D_Reader_readNumber 6 rfl) rfl rfl ?_
    refine vg_iconst (pc := 13) (dK D_Reader_readNumber 7 rfl) ?_
    refine bnE h (fun p9 e_p9 h => ?_)
    refine vg_cV (pc := 14) (As := [V 1]) (rest := []) (mc' := 0) (ms' := 0) (dK D_Reader_readNumber 8 rfl) K_Reader_68 (fitK rfl) (ltK rfl) hc0 rfl (leK rfl) (leK rfl) (leK rfl) (tf_Reader_fail hc0 (inRk rfl) e_p9) (kcB ?_)
    exact vg_iretB (pc := 17) (b := p9.1) (dK D_Reader_readNumber 9 rfl) rfl (leK rfl) (leK rfl) (fun _ => rfl) (by obtain rfl := Option.some.inj h; exact ⟨rfl, rfl⟩)
def fn_Reader_readSemicolon (c0 : Nat) (S : St) : Option (Bool × St) := bnO (fn_Reader_nextToken c0 S) fun p1 => if (g p1 c0 4) = 3 then (some (true, p1)) else (bnO (fn_Reader_fail c0 1 p1) fun p2 => if p2.1 = true then (some (true, p2.2)) else (some (false, p2.2)))
theorem tf_Reader_readSemicolon {E : EV} {X : XT} {c0 : Nat} (hc0 : HC X 5 c0) {S : St} {q : Bool × St} (h : fn_Reader_readSemicolon c0 S = some q) : Ev E M_Reader_readSemicolon [.ref c0] (WX X S) 0 0 (KB X q.1 q.2) := by
  refine Ev.of pn_Reader rfl (leK rfl) ?_
  show Go E M_Reader_readSemicolon 0 0 0 [(0, .ref c0)] [] (WX X S) 0 0 (KB X q.1 q.2)
  unfold fn_Reader_readSemicolon at h
  refine g_aloadn (pc := 0) (i0 := 0) (j := 0) (dK D_Reader_readSemicolon 0 rfl) rfl rfl ?_
  refine bnE h (fun p1 e_p1 h => ?_)
  refine vg_cV (pc := 1) (As := []) (rest := []) (mc' := 0) (ms' := 0) (dK D_Reader_readSemicolon 1 rfl) K_Reader_45 (fitK rfl) (ltK rfl) hc0 rfl (leK rfl) (leK rfl) (leK rfl) (tf_Reader_nextToken hc0 e_p1) (kcU ?_)
  refine g_aloadn (pc := 4) (i0 := 0) (j := 0) (dK D_Reader_readSemicolon 2 rfl) rfl rfl ?_
  refine vg_getI (pc := 5) (ci := 5) (f := 4) (dK D_Reader_readSemicolon 3 rfl) q_348 hc0 (ltK rfl) (ltK rfl) rfl ?_
  refine vg_iconst (pc := 8) (dK D_Reader_readSemicolon 4 rfl) ?_
  refine vg_icmp_eq (pc := 9) (t := 20) (dK D_Reader_readSemicolon 5 rfl) rfl (g_in _ _ _) (inRk rfl) (fun hc4 => ?_) (fun hc4 => ?_)
  · replace h := ifP h hc4
    refine vg_iconst (pc := 20) (dK D_Reader_readSemicolon 10 rfl) ?_
    refine g_goto (pc := 21) (tgt := 25) (dK D_Reader_readSemicolon 11 rfl) rfl ?_
    exact vg_iretB (pc := 25) (b := true) (dK D_Reader_readSemicolon 13 rfl) rfl (leK rfl) (leK rfl) (fun _ => rfl) (by obtain rfl := Option.some.inj h; exact ⟨rfl, rfl⟩)
  · replace h := ifN h hc4
    refine g_aloadn (pc := 12) (i0 := 0) (j := 0) (dK D_Reader_readSemicolon 6 rfl) rfl rfl ?_
    refine vg_iconst (pc := 13) (dK D_Reader_readSemicolon 7 rfl) ?_
    refine bnE h (fun p2 e_p2 h => ?_)
    refine vg_cV (pc := 14) (As := [V 1]) (rest := []) (mc' := 0) (ms' := 0) (dK D_Reader_readSemicolon 8 rfl) K_Reader_68 (fitK rfl) (ltK rfl) hc0 rfl (leK rfl) (leK rfl) (leK rfl) (tf_Reader_fail hc0 (inRk rfl) e_p2) (kcB ?_)
    refine vg_ifB_eq (pc := 17) (b := p2.1) (t := 24) (dK D_Reader_readSemicolon 9 rfl) rfl (fun hc3 => ?_) (fun hc3 => ?_)
    · replace h := ifP h hc3
      refine vg_iconst (pc := 20) (dK D_Reader_readSemicolon 10 rfl) ?_
      refine g_goto (pc := 21) (tgt := 25) (dK D_Reader_readSemicolon 11 rfl) rfl ?_
      exact vg_iretB (pc := 25) (b := true) (dK D_Reader_readSemicolon 13 rfl) rfl (leK rfl) (leK rfl) (fun _ => rfl) (by obtain rfl := Option.some.inj h; exact ⟨rfl, rfl⟩)
    · replace h := ifN h hc3
      refine vg_iconst (pc := 24) (dK D_Reader_readSemicolon 12 rfl) ?_
      exact vg_iretB (pc := 25) (b := false) (dK D_Reader_readSemicolon 13 rfl) rfl (leK rfl) (leK rfl) (fun _ => rfl) (by obtain rfl := Option.some.inj h; exact ⟨rfl, rfl⟩)
def fn_Reader_readPlan (c0 : Nat) (S : St) : Option (Bool × St) := bnO (fn_Reader_readNumber c0 0 1 4 S) fun p1 => if p1.1 = true then (bnO (fn_Reader_readNumber c0 1 4 16 p1.2) fun p3 => if p3.1 = true then (if (g p3.2 (tgt c0 2) 1) = 4 then (bnO (fn_Plan_begin (tgt c0 1) (g p3.2 (tgt c0 2) 0) (g p3.2 (tgt c0 2) 1) p3.2) fun p5 => bnO (fn_Reader_readSemicolon c0 p5) fun p6 => some (p6.1, p6.2)) else (if (g p3.2 (tgt c0 2) 1) = 8 then (bnO (fn_Plan_begin (tgt c0 1) (g p3.2 (tgt c0 2) 0) (g p3.2 (tgt c0 2) 1) p3.2) fun p7 => bnO (fn_Reader_readSemicolon c0 p7) fun p8 => some (p8.1, p8.2)) else (if (g p3.2 (tgt c0 2) 1) = 16 then (bnO (fn_Plan_begin (tgt c0 1) (g p3.2 (tgt c0 2) 0) (g p3.2 (tgt c0 2) 1) p3.2) fun p9 => bnO (fn_Reader_readSemicolon c0 p9) fun p10 => some (p10.1, p10.2)) else (bnO (fn_Reader_fail c0 2 p3.2) fun p11 => some (p11.1, p11.2))))) else (some (false, p3.2))) else (some (false, p1.2))
theorem tf_Reader_readPlan {E : EV} {X : XT} {c0 : Nat} (hc0 : HC X 5 c0) {S : St} {q : Bool × St} (h : fn_Reader_readPlan c0 S = some q) : Ev E M_Reader_readPlan [.ref c0] (WX X S) 0 0 (KB X q.1 q.2) := by
  refine Ev.of pn_Reader rfl (leK rfl) ?_
  show Go E M_Reader_readPlan 0 0 0 [(0, .ref c0)] [] (WX X S) 0 0 (KB X q.1 q.2)
  unfold fn_Reader_readPlan at h
  refine g_aloadn (pc := 0) (i0 := 0) (j := 0) (dK D_Reader_readPlan 0 rfl) rfl rfl ?_
  refine vg_iconst (pc := 1) (dK D_Reader_readPlan 1 rfl) ?_
  refine vg_iconst (pc := 2) (dK D_Reader_readPlan 2 rfl) ?_
  refine vg_iconst (pc := 3) (dK D_Reader_readPlan 3 rfl) ?_
  refine bnE h (fun p1 e_p1 h => ?_)
  refine vg_cV (pc := 4) (As := [V 0, V 1, V 4]) (rest := []) (mc' := 0) (ms' := 0) (dK D_Reader_readPlan 4 rfl) K_Reader_64 (fitK rfl) (ltK rfl) hc0 rfl (leK rfl) (leK rfl) (leK rfl) (tf_Reader_readNumber hc0 (inRk rfl) (inRk rfl) (inRk rfl) e_p1) (kcB ?_)
  refine vg_ifB_eq (pc := 7) (b := p1.1) (t := 21) (dK D_Reader_readPlan 5 rfl) rfl (fun hc2 => ?_) (fun hc2 => ?_)
  · replace h := ifP h hc2
    refine g_aloadn (pc := 10) (i0 := 0) (j := 0) (dK D_Reader_readPlan 6 rfl) rfl rfl ?_
    refine vg_iconst (pc := 11) (dK D_Reader_readPlan 7 rfl) ?_
    refine vg_iconst (pc := 12) (dK D_Reader_readPlan 8 rfl) ?_
    refine vg_bipush (pc := 13) (dK D_Reader_readPlan 9 rfl) rfl ?_
    refine bnE h (fun p3 e_p3 h => ?_)
    refine vg_cV (pc := 15) (As := [V 1, V 4, V 16]) (rest := []) (mc' := 0) (ms' := 0) (dK D_Reader_readPlan 10 rfl) K_Reader_64 (fitK rfl) (ltK rfl) hc0 rfl (leK rfl) (leK rfl) (leK rfl) (tf_Reader_readNumber hc0 (inRk rfl) (inRk rfl) (inRk rfl) e_p3) (kcB ?_)
    refine vg_ifB_ne (pc := 18) (b := p3.1) (t := 23) (dK D_Reader_readPlan 11 rfl) rfl (fun hc4 => ?_) (fun hc4 => ?_)
    · replace h := ifP h hc4
      refine g_aloadn (pc := 23) (i0 := 0) (j := 0) (dK D_Reader_readPlan 14 rfl) rfl rfl ?_
      refine vg_getA (pc := 24) (ci := 5) (f := 2) (dK D_Reader_readPlan 15 rfl) q_346 hc0 (ltK rfl) (ltK rfl) rfl ?_
      refine vg_iconst (pc := 27) (dK D_Reader_readPlan 16 rfl) ?_
      refine vg_iaload (pc := 28) (j := 1) (dK D_Reader_readPlan 17 rfl) (hw_5_2 hc0) rfl ⟨by decide, by decide⟩ rfl ?_
      refine vg_iconst (pc := 29) (dK D_Reader_readPlan 18 rfl) ?_
      refine vg_icmp_eq (pc := 30) (t := 61) (dK D_Reader_readPlan 19 rfl) rfl (g_in _ _ _) (inRk rfl) (fun hc14 => ?_) (fun hc14 => ?_)
      · replace h := ifP h hc14
        refine g_aloadn (pc := 61) (i0 := 0) (j := 0) (dK D_Reader_readPlan 36 rfl) rfl rfl ?_
        refine vg_getO (pc := 62) (ci := 5) (f := 1) (dK D_Reader_readPlan 37 rfl) q_344 hc0 (ltK rfl) (ltK rfl) rfl ?_
        refine g_aloadn (pc := 65) (i0 := 0) (j := 0) (dK D_Reader_readPlan 38 rfl) rfl rfl ?_
        refine vg_getA (pc := 66) (ci := 5) (f := 2) (dK D_Reader_readPlan 39 rfl) q_346 hc0 (ltK rfl) (ltK rfl) rfl ?_
        refine vg_iconst (pc := 69) (dK D_Reader_readPlan 40 rfl) ?_
        refine vg_iaload (pc := 70) (j := 0) (dK D_Reader_readPlan 41 rfl) (hw_5_2 hc0) rfl ⟨by decide, by decide⟩ rfl ?_
        refine g_aloadn (pc := 71) (i0 := 0) (j := 0) (dK D_Reader_readPlan 42 rfl) rfl rfl ?_
        refine vg_getA (pc := 72) (ci := 5) (f := 2) (dK D_Reader_readPlan 43 rfl) q_346 hc0 (ltK rfl) (ltK rfl) rfl ?_
        refine vg_iconst (pc := 75) (dK D_Reader_readPlan 44 rfl) ?_
        refine vg_iaload (pc := 76) (j := 1) (dK D_Reader_readPlan 45 rfl) (hw_5_2 hc0) rfl ⟨by decide, by decide⟩ rfl ?_
        refine bnE h (fun p5 e_p5 h => ?_)
        refine vg_cV (pc := 77) (As := [V (g p3.2 (tgt c0 2) 0), V (g p3.2 (tgt c0 2) 1)]) (rest := []) (mc' := 0) (ms' := 0) (dK D_Reader_readPlan 46 rfl) K_Reader_41 (fitK rfl) (ltK rfl) (hw_5_1 hc0) rfl (leK rfl) (leK rfl) (leK rfl) (tf_Plan_begin (hw_5_1 hc0) (g_in _ _ _) (g_in _ _ _) e_p5) (kcU ?_)
        refine g_aloadn (pc := 80) (i0 := 0) (j := 0) (dK D_Reader_readPlan 47 rfl) rfl rfl ?_
        refine bnE h (fun p6 e_p6 h => ?_)
        refine vg_cV (pc := 81) (As := []) (rest := []) (mc' := 0) (ms' := 0) (dK D_Reader_readPlan 48 rfl) K_Reader_72 (fitK rfl) (ltK rfl) hc0 rfl (leK rfl) (leK rfl) (leK rfl) (tf_Reader_readSemicolon hc0 e_p6) (kcB ?_)
        exact vg_iretB (pc := 84) (b := p6.1) (dK D_Reader_readPlan 49 rfl) rfl (leK rfl) (leK rfl) (fun _ => rfl) (by obtain rfl := Option.some.inj h; exact ⟨rfl, rfl⟩)
      · replace h := ifN h hc14
        refine g_aloadn (pc := 33) (i0 := 0) (j := 0) (dK D_Reader_readPlan 20 rfl) rfl rfl ?_
        refine vg_getA (pc := 34) (ci := 5) (f := 2) (dK D_Reader_readPlan 21 rfl) q_346 hc0 (ltK rfl) (ltK rfl) rfl ?_
        refine vg_iconst (pc := 37) (dK D_Reader_readPlan 22 rfl) ?_
        refine vg_iaload (pc := 38) (j := 1) (dK D_Reader_readPlan 23 rfl) (hw_5_2 hc0) rfl ⟨by decide, by decide⟩ rfl ?_
        refine vg_bipush (pc := 39) (dK D_Reader_readPlan 24 rfl) rfl ?_
        refine vg_icmp_eq (pc := 41) (t := 61) (dK D_Reader_readPlan 25 rfl) rfl (g_in _ _ _) (inRk rfl) (fun hc13 => ?_) (fun hc13 => ?_)
        · replace h := ifP h hc13
          refine g_aloadn (pc := 61) (i0 := 0) (j := 0) (dK D_Reader_readPlan 36 rfl) rfl rfl ?_
          refine vg_getO (pc := 62) (ci := 5) (f := 1) (dK D_Reader_readPlan 37 rfl) q_344 hc0 (ltK rfl) (ltK rfl) rfl ?_
          refine g_aloadn (pc := 65) (i0 := 0) (j := 0) (dK D_Reader_readPlan 38 rfl) rfl rfl ?_
          refine vg_getA (pc := 66) (ci := 5) (f := 2) (dK D_Reader_readPlan 39 rfl) q_346 hc0 (ltK rfl) (ltK rfl) rfl ?_
          refine vg_iconst (pc := 69) (dK D_Reader_readPlan 40 rfl) ?_
          refine vg_iaload (pc := 70) (j := 0) (dK D_Reader_readPlan 41 rfl) (hw_5_2 hc0) rfl ⟨by decide, by decide⟩ rfl ?_
          refine g_aloadn (pc := 71) (i0 := 0) (j := 0) (dK D_Reader_readPlan 42 rfl) rfl rfl ?_
          refine vg_getA (pc := 72) (ci := 5) (f := 2) (dK D_Reader_readPlan 43 rfl) q_346 hc0 (ltK rfl) (ltK rfl) rfl ?_
          refine vg_iconst (pc := 75) (dK D_Reader_readPlan 44 rfl) ?_
          refine vg_iaload (pc := 76) (j := 1) (dK D_Reader_readPlan 45 rfl) (hw_5_2 hc0) rfl ⟨by decide, by decide⟩ rfl ?_
          refine bnE h (fun p7 e_p7 h => ?_)
          refine vg_cV (pc := 77) (As := [V (g p3.2 (tgt c0 2) 0), V (g p3.2 (tgt c0 2) 1)]) (rest := []) (mc' := 0) (ms' := 0) (dK D_Reader_readPlan 46 rfl) K_Reader_41 (fitK rfl) (ltK rfl) (hw_5_1 hc0) rfl (leK rfl) (leK rfl) (leK rfl) (tf_Plan_begin (hw_5_1 hc0) (g_in _ _ _) (g_in _ _ _) e_p7) (kcU ?_)
          refine g_aloadn (pc := 80) (i0 := 0) (j := 0) (dK D_Reader_readPlan 47 rfl) rfl rfl ?_
          refine bnE h (fun p8 e_p8 h => ?_)
          refine vg_cV (pc := 81) (As := []) (rest := []) (mc' := 0) (ms' := 0) (dK D_Reader_readPlan 48 rfl) K_Reader_72 (fitK rfl) (ltK rfl) hc0 rfl (leK rfl) (leK rfl) (leK rfl) (tf_Reader_readSemicolon hc0 e_p8) (kcB ?_)
          exact vg_iretB (pc := 84) (b := p8.1) (dK D_Reader_readPlan 49 rfl) rfl (leK rfl) (leK rfl) (fun _ => rfl) (by obtain rfl := Option.some.inj h; exact ⟨rfl, rfl⟩)
        · replace h := ifN h hc13
          refine g_aloadn (pc := 44) (i0 := 0) (j := 0) (dK D_Reader_readPlan 26 rfl) rfl rfl ?_
          refine vg_getA (pc := 45) (ci := 5) (f := 2) (dK D_Reader_readPlan 27 rfl) q_346 hc0 (ltK rfl) (ltK rfl) rfl ?_
          refine vg_iconst (pc := 48) (dK D_Reader_readPlan 28 rfl) ?_
          refine vg_iaload (pc := 49) (j := 1) (dK D_Reader_readPlan 29 rfl) (hw_5_2 hc0) rfl ⟨by decide, by decide⟩ rfl ?_
          refine vg_bipush (pc := 50) (dK D_Reader_readPlan 30 rfl) rfl ?_
          refine vg_icmp_eq (pc := 52) (t := 61) (dK D_Reader_readPlan 31 rfl) rfl (g_in _ _ _) (inRk rfl) (fun hc12 => ?_) (fun hc12 => ?_)
          · replace h := ifP h hc12
            refine g_aloadn (pc := 61) (i0 := 0) (j := 0) (dK D_Reader_readPlan 36 rfl) rfl rfl ?_
            refine vg_getO (pc := 62) (ci := 5) (f := 1) (dK D_Reader_readPlan 37 rfl) q_344 hc0 (ltK rfl) (ltK rfl) rfl ?_
            refine g_aloadn (pc := 65) (i0 := 0) (j := 0) (dK D_Reader_readPlan 38 rfl) rfl rfl ?_
            refine vg_getA (pc := 66) (ci := 5) (f := 2) (dK D_Reader_readPlan 39 rfl) q_346 hc0 (ltK rfl) (ltK rfl) rfl ?_
            refine vg_iconst (pc := 69) (dK D_Reader_readPlan 40 rfl) ?_
            refine vg_iaload (pc := 70) (j := 0) (dK D_Reader_readPlan 41 rfl) (hw_5_2 hc0) rfl ⟨by decide, by decide⟩ rfl ?_
            refine g_aloadn (pc := 71) (i0 := 0) (j := 0) (dK D_Reader_readPlan 42 rfl) rfl rfl ?_
            refine vg_getA (pc := 72) (ci := 5) (f := 2) (dK D_Reader_readPlan 43 rfl) q_346 hc0 (ltK rfl) (ltK rfl) rfl ?_
            refine vg_iconst (pc := 75) (dK D_Reader_readPlan 44 rfl) ?_
            refine vg_iaload (pc := 76) (j := 1) (dK D_Reader_readPlan 45 rfl) (hw_5_2 hc0) rfl ⟨by decide, by decide⟩ rfl ?_
            refine bnE h (fun p9 e_p9 h => ?_)
            refine vg_cV (pc := 77) (As := [V (g p3.2 (tgt c0 2) 0), V (g p3.2 (tgt c0 2) 1)]) (rest := []) (mc' := 0) (ms' := 0) (dK D_Reader_readPlan 46 rfl) K_Reader_41 (fitK rfl) (ltK rfl) (hw_5_1 hc0) rfl (leK rfl) (leK rfl) (leK rfl) (tf_Plan_begin (hw_5_1 hc0) (g_in _ _ _) (g_in _ _ _) e_p9) (kcU ?_)
            refine g_aloadn (pc := 80) (i0 := 0) (j := 0) (dK D_Reader_readPlan 47 rfl) rfl rfl ?_
            refine bnE h (fun p10 e_p10 h => ?_)
            refine vg_cV (pc := 81) (As := []) (rest := []) (mc' := 0) (ms' := 0) (dK D_Reader_readPlan 48 rfl) K_Reader_72 (fitK rfl) (ltK rfl) hc0 rfl (leK rfl) (leK rfl) (leK rfl) (tf_Reader_readSemicolon hc0 e_p10) (kcB ?_)
            exact vg_iretB (pc := 84) (b := p10.1) (dK D_Reader_readPlan 49 rfl) rfl (leK rfl) (leK rfl) (fun _ => rfl) (by obtain rfl := Option.some.inj h; exact ⟨rfl, rfl⟩)
          · replace h := ifN h hc12
            refine g_aloadn (pc := 55) (i0 := 0) (j := 0) (dK D_Reader_readPlan 32 rfl) rfl rfl ?_
            refine vg_iconst (pc := 56) (dK D_Reader_readPlan 33 rfl) ?_
            refine bnE h (fun p11 e_p11 h => ?_)
            refine vg_cV (pc := 57) (As := [V 2]) (rest := []) (mc' := 0) (ms' := 0) (dK D_Reader_readPlan 34 rfl) K_Reader_68 (fitK rfl) (ltK rfl) hc0 rfl (leK rfl) (leK rfl) (leK rfl) (tf_Reader_fail hc0 (inRk rfl) e_p11) (kcB ?_)
            exact vg_iretB (pc := 60) (b := p11.1) (dK D_Reader_readPlan 35 rfl) rfl (leK rfl) (leK rfl) (fun _ => rfl) (by obtain rfl := Option.some.inj h; exact ⟨rfl, rfl⟩)
    · replace h := ifN h hc4
      refine vg_iconst (pc := 21) (dK D_Reader_readPlan 12 rfl) ?_
      exact vg_iretB (pc := 22) (b := false) (dK D_Reader_readPlan 13 rfl) rfl (leK rfl) (leK rfl) (fun _ => rfl) (by obtain rfl := Option.some.inj h; exact ⟨rfl, rfl⟩)
  · replace h := ifN h hc2
    refine vg_iconst (pc := 21) (dK D_Reader_readPlan 12 rfl) ?_
    exact vg_iretB (pc := 22) (b := false) (dK D_Reader_readPlan 13 rfl) rfl (leK rfl) (leK rfl) (fun _ => rfl) (by obtain rfl := Option.some.inj h; exact ⟨rfl, rfl⟩)
def fn_Reader_readColor (c0 : Nat) (S : St) : Option (Bool × St) := nm (wr ((g S (tgt c0 1) 2) - 1)) fun v1 => bnO (fn_Reader_readNumber c0 0 0 v1 S) fun p2 => if p2.1 = true then (if 0 ≤ (g p2.2 (tgt c0 2) 0) ∧ (g p2.2 (tgt c0 2) 0) < 8 then (nm (u p2.2 (tgt (tgt (tgt (tgt c0 1) 0) 3) 0) (((g p2.2 (tgt c0 2) 0)).toNat) 1) fun S5 => bnO (fn_Reader_readSemicolon c0 S5) fun p6 => some (p6.1, p6.2)) else none) else (some (false, p2.2))
theorem tf_Reader_readColor {E : EV} {X : XT} {c0 : Nat} (hc0 : HC X 5 c0) {S : St} {q : Bool × St} (h : fn_Reader_readColor c0 S = some q) : Ev E M_Reader_readColor [.ref c0] (WX X S) 0 0 (KB X q.1 q.2) := by
  refine Ev.of pn_Reader rfl (leK rfl) ?_
  show Go E M_Reader_readColor 0 0 0 [(0, .ref c0)] [] (WX X S) 0 0 (KB X q.1 q.2)
  unfold fn_Reader_readColor at h
  refine g_aloadn (pc := 0) (i0 := 0) (j := 0) (dK D_Reader_readColor 0 rfl) rfl rfl ?_
  refine vg_iconst (pc := 1) (dK D_Reader_readColor 1 rfl) ?_
  refine vg_iconst (pc := 2) (dK D_Reader_readColor 2 rfl) ?_
  refine g_aloadn (pc := 3) (i0 := 0) (j := 0) (dK D_Reader_readColor 3 rfl) rfl rfl ?_
  refine vg_getO (pc := 4) (ci := 5) (f := 1) (dK D_Reader_readColor 4 rfl) q_344 hc0 (ltK rfl) (ltK rfl) rfl ?_
  refine vg_getI (pc := 7) (ci := 4) (f := 2) (dK D_Reader_readColor 5 rfl) q_310 (hw_5_1 hc0) (ltK rfl) (ltK rfl) rfl ?_
  refine vg_iconst (pc := 10) (dK D_Reader_readColor 6 rfl) ?_
  refine vg_isub (pc := 11) (dK D_Reader_readColor 7 rfl) ?_
  refine nmE h (fun v1 e_v1 h => ?_)
  refine gtop e_v1 ?_
  refine bnE h (fun p2 e_p2 h => ?_)
  refine vg_cV (pc := 12) (As := [V 0, V 0, V v1]) (rest := []) (mc' := 0) (ms' := 0) (dK D_Reader_readColor 8 rfl) K_Reader_64 (fitK rfl) (ltK rfl) hc0 rfl (leK rfl) (leK rfl) (leK rfl) (tf_Reader_readNumber hc0 (inRk rfl) (inRk rfl) (Vn_in e_v1) e_p2) (kcB ?_)
  refine vg_ifB_ne (pc := 15) (b := p2.1) (t := 20) (dK D_Reader_readColor 9 rfl) rfl (fun hc3 => ?_) (fun hc3 => ?_)
  · replace h := ifP h hc3
    refine g_aloadn (pc := 20) (i0 := 0) (j := 0) (dK D_Reader_readColor 12 rfl) rfl rfl ?_
    refine vg_getO (pc := 21) (ci := 5) (f := 1) (dK D_Reader_readColor 13 rfl) q_344 hc0 (ltK rfl) (ltK rfl) rfl ?_
    refine vg_getO (pc := 24) (ci := 4) (f := 0) (dK D_Reader_readColor 14 rfl) q_304 (hw_5_1 hc0) (ltK rfl) (ltK rfl) rfl ?_
    refine vg_getO (pc := 27) (ci := 8) (f := 3) (dK D_Reader_readColor 15 rfl) q_247 (hw_4_0 (hw_5_1 hc0)) (ltK rfl) (ltK rfl) rfl ?_
    refine vg_getA (pc := 30) (ci := 2) (f := 0) (dK D_Reader_readColor 16 rfl) q_213 (hw_8_3 (hw_4_0 (hw_5_1 hc0))) (ltK rfl) (ltK rfl) rfl ?_
    refine g_aloadn (pc := 33) (i0 := 0) (j := 0) (dK D_Reader_readColor 17 rfl) rfl rfl ?_
    refine vg_getA (pc := 34) (ci := 5) (f := 2) (dK D_Reader_readColor 18 rfl) q_346 hc0 (ltK rfl) (ltK rfl) rfl ?_
    refine vg_iconst (pc := 37) (dK D_Reader_readColor 19 rfl) ?_
    refine vg_iaload (pc := 38) (j := 0) (dK D_Reader_readColor 20 rfl) (hw_5_2 hc0) rfl ⟨by decide, by decide⟩ rfl ?_
    refine vg_iconst (pc := 39) (dK D_Reader_readColor 21 rfl) ?_
    refine gdE h (fun hi4 h => ?_)
    refine nmE h (fun S5 e_S5 h => ?_)
    refine vg_iastore (pc := 40) (z := 1) (dK D_Reader_readColor 22 rfl) (hw_2_0 (hw_8_3 (hw_4_0 (hw_5_1 hc0)))) rfl hi4 rfl e_S5 ?_
    refine g_aloadn (pc := 41) (i0 := 0) (j := 0) (dK D_Reader_readColor 23 rfl) rfl rfl ?_
    refine bnE h (fun p6 e_p6 h => ?_)
    refine vg_cV (pc := 42) (As := []) (rest := []) (mc' := 0) (ms' := 0) (dK D_Reader_readColor 24 rfl) K_Reader_72 (fitK rfl) (ltK rfl) hc0 rfl (leK rfl) (leK rfl) (leK rfl) (tf_Reader_readSemicolon hc0 e_p6) (kcB ?_)
    exact vg_iretB (pc := 45) (b := p6.1) (dK D_Reader_readColor 25 rfl) rfl (leK rfl) (leK rfl) (fun _ => rfl) (by obtain rfl := Option.some.inj h; exact ⟨rfl, rfl⟩)
  · replace h := ifN h hc3
    refine vg_iconst (pc := 18) (dK D_Reader_readColor 10 rfl) ?_
    exact vg_iretB (pc := 19) (b := false) (dK D_Reader_readColor 11 rfl) rfl (leK rfl) (leK rfl) (fun _ => rfl) (by obtain rfl := Option.some.inj h; exact ⟨rfl, rfl⟩)
def fn_FP_isSize (a0 : Int) (S : St) : Option (Bool) := if a0 = 1 then (some true) else (if a0 = 2 then (some true) else (if a0 = 4 then (some true) else (some false)))
theorem tf_FP_isSize {E : EV} {X : XT} {a0 : Int} (ha0 : inR a0) {S : St} {q : Bool} (h : fn_FP_isSize a0 S = some q) : Ev E M_FP_isSize [V a0] (WX X S) 0 0 (KB X q S) := by
  refine Ev.of pn_FP rfl (leK rfl) ?_
  show Go E M_FP_isSize 0 0 0 [(0, V a0)] [] (WX X S) 0 0 (KB X q S)
  unfold fn_FP_isSize at h
  refine g_iloadn (pc := 0) (i0 := 0) (j := 0) (dK D_FP_isSize 0 rfl) rfl rfl ?_
  refine vg_iconst (pc := 1) (dK D_FP_isSize 1 rfl) ?_
  refine vg_icmp_eq (pc := 2) (t := 15) (dK D_FP_isSize 2 rfl) rfl ha0 (inRk rfl) (fun hc3 => ?_) (fun hc3 => ?_)
  · replace h := ifP h hc3
    refine vg_iconst (pc := 15) (dK D_FP_isSize 9 rfl) ?_
    refine g_goto (pc := 16) (tgt := 20) (dK D_FP_isSize 10 rfl) rfl ?_
    exact vg_iretB (pc := 20) (b := true) (dK D_FP_isSize 12 rfl) rfl (leK rfl) (leK rfl) (fun _ => rfl) (by obtain rfl := Option.some.inj h; exact ⟨rfl, rfl⟩)
  · replace h := ifN h hc3
    refine g_iloadn (pc := 5) (i0 := 0) (j := 0) (dK D_FP_isSize 3 rfl) rfl rfl ?_
    refine vg_iconst (pc := 6) (dK D_FP_isSize 4 rfl) ?_
    refine vg_icmp_eq (pc := 7) (t := 15) (dK D_FP_isSize 5 rfl) rfl ha0 (inRk rfl) (fun hc2 => ?_) (fun hc2 => ?_)
    · replace h := ifP h hc2
      refine vg_iconst (pc := 15) (dK D_FP_isSize 9 rfl) ?_
      refine g_goto (pc := 16) (tgt := 20) (dK D_FP_isSize 10 rfl) rfl ?_
      exact vg_iretB (pc := 20) (b := true) (dK D_FP_isSize 12 rfl) rfl (leK rfl) (leK rfl) (fun _ => rfl) (by obtain rfl := Option.some.inj h; exact ⟨rfl, rfl⟩)
    · replace h := ifN h hc2
      refine g_iloadn (pc := 10) (i0 := 0) (j := 0) (dK D_FP_isSize 6 rfl) rfl rfl ?_
      refine vg_iconst (pc := 11) (dK D_FP_isSize 7 rfl) ?_
      refine vg_icmp_ne (pc := 12) (t := 19) (dK D_FP_isSize 8 rfl) rfl ha0 (inRk rfl) (fun hc1 => ?_) (fun hc1 => ?_)
      · replace h := ifN h hc1
        refine vg_iconst (pc := 19) (dK D_FP_isSize 11 rfl) ?_
        exact vg_iretB (pc := 20) (b := false) (dK D_FP_isSize 12 rfl) rfl (leK rfl) (leK rfl) (fun _ => rfl) (by obtain rfl := Option.some.inj h; exact ⟨rfl, rfl⟩)
      · replace h := ifP h hc1
        refine vg_iconst (pc := 15) (dK D_FP_isSize 9 rfl) ?_
        refine g_goto (pc := 16) (tgt := 20) (dK D_FP_isSize 10 rfl) rfl ?_
        exact vg_iretB (pc := 20) (b := true) (dK D_FP_isSize 12 rfl) rfl (leK rfl) (leK rfl) (fun _ => rfl) (by obtain rfl := Option.some.inj h; exact ⟨rfl, rfl⟩)
def fn_Reader_firstIsSize (c0 : Nat) (S : St) : Option (Bool × St) := bnO (fn_FP_isSize (g S (tgt c0 2) 0) S) fun p1 => if p1 = true then (some (true, S)) else (bnO (fn_Reader_fail c0 2 S) fun p3 => if p3.1 = true then (some (true, p3.2)) else (some (false, p3.2)))
theorem tf_Reader_firstIsSize {E : EV} {X : XT} {c0 : Nat} (hc0 : HC X 5 c0) {S : St} {q : Bool × St} (h : fn_Reader_firstIsSize c0 S = some q) : Ev E M_Reader_firstIsSize [.ref c0] (WX X S) 0 0 (KB X q.1 q.2) := by
  refine Ev.of pn_Reader rfl (leK rfl) ?_
  show Go E M_Reader_firstIsSize 0 0 0 [(0, .ref c0)] [] (WX X S) 0 0 (KB X q.1 q.2)
  unfold fn_Reader_firstIsSize at h
  refine g_aloadn (pc := 0) (i0 := 0) (j := 0) (dK D_Reader_firstIsSize 0 rfl) rfl rfl ?_
  refine vg_getA (pc := 1) (ci := 5) (f := 2) (dK D_Reader_firstIsSize 1 rfl) q_346 hc0 (ltK rfl) (ltK rfl) rfl ?_
  refine vg_iconst (pc := 4) (dK D_Reader_firstIsSize 2 rfl) ?_
  refine vg_iaload (pc := 5) (j := 0) (dK D_Reader_firstIsSize 3 rfl) (hw_5_2 hc0) rfl ⟨by decide, by decide⟩ rfl ?_
  refine bnE h (fun p1 e_p1 h => ?_)
  refine vg_cSN (pc := 6) (As := [V (g S (tgt c0 2) 0)]) (rest := []) (mc' := 0) (ms' := 0) (dK D_Reader_firstIsSize 4 rfl) K_Reader_185 (fitK rfl) rfl (leK rfl) (leK rfl) (leK rfl) (tf_FP_isSize (g_in _ _ _) e_p1) (knB (kcB ?_))
  refine vg_ifB_ne (pc := 9) (b := p1) (t := 20) (dK D_Reader_firstIsSize 5 rfl) rfl (fun hc2 => ?_) (fun hc2 => ?_)
  · replace h := ifP h hc2
    refine vg_iconst (pc := 20) (dK D_Reader_firstIsSize 10 rfl) ?_
    refine g_goto (pc := 21) (tgt := 25) (dK D_Reader_firstIsSize 11 rfl) rfl ?_
    exact vg_iretB (pc := 25) (b := true) (dK D_Reader_firstIsSize 13 rfl) rfl (leK rfl) (leK rfl) (fun _ => rfl) (by obtain rfl := Option.some.inj h; exact ⟨rfl, rfl⟩)
  · replace h := ifN h hc2
    refine g_aloadn (pc := 12) (i0 := 0) (j := 0) (dK D_Reader_firstIsSize 6 rfl) rfl rfl ?_
    refine vg_iconst (pc := 13) (dK D_Reader_firstIsSize 7 rfl) ?_
    refine bnE h (fun p3 e_p3 h => ?_)
    refine vg_cV (pc := 14) (As := [V 2]) (rest := []) (mc' := 0) (ms' := 0) (dK D_Reader_firstIsSize 8 rfl) K_Reader_68 (fitK rfl) (ltK rfl) hc0 rfl (leK rfl) (leK rfl) (leK rfl) (tf_Reader_fail hc0 (inRk rfl) e_p3) (kcB ?_)
    refine vg_ifB_eq (pc := 17) (b := p3.1) (t := 24) (dK D_Reader_firstIsSize 9 rfl) rfl (fun hc4 => ?_) (fun hc4 => ?_)
    · replace h := ifP h hc4
      refine vg_iconst (pc := 20) (dK D_Reader_firstIsSize 10 rfl) ?_
      refine g_goto (pc := 21) (tgt := 25) (dK D_Reader_firstIsSize 11 rfl) rfl ?_
      exact vg_iretB (pc := 25) (b := true) (dK D_Reader_firstIsSize 13 rfl) rfl (leK rfl) (leK rfl) (fun _ => rfl) (by obtain rfl := Option.some.inj h; exact ⟨rfl, rfl⟩)
    · replace h := ifN h hc4
      refine vg_iconst (pc := 24) (dK D_Reader_firstIsSize 12 rfl) ?_
      exact vg_iretB (pc := 25) (b := false) (dK D_Reader_firstIsSize 13 rfl) rfl (leK rfl) (leK rfl) (fun _ => rfl) (by obtain rfl := Option.some.inj h; exact ⟨rfl, rfl⟩)
def fn_Ads_add (c0 : Nat) (a1 : Int) (a2 : Int) (a3 : Int) (a4 : Int) (S : St) : Option (Int × St) := if (g S c0 7) < 40 then (if 0 ≤ (g S c0 7) ∧ (g S c0 7) < 40 then (nm (u S (tgt c0 0) (((g S c0 7)).toNat) a1) fun S2 => nm (u S2 (tgt c0 1) (((g S c0 7)).toNat) a2) fun S3 => nm (u S3 (tgt c0 2) (((g S c0 7)).toNat) 0) fun S4 => nm (u S4 (tgt c0 3) (((g S c0 7)).toNat) 0) fun S5 => nm (u S5 (tgt c0 4) (((g S c0 7)).toNat) a3) fun S6 => nm (u S6 (tgt c0 5) (((g S c0 7)).toNat) a4) fun S7 => nm (u S7 (tgt c0 6) (((g S c0 7)).toNat) 0) fun S8 => nm (u S8 c0 7 ((g S8 c0 7) + 1)) fun S9 => some ((g S c0 7), S9)) else none) else (some ((-2), S))
theorem tf_Ads_add {E : EV} {X : XT} {c0 : Nat} (hc0 : HC X 0 c0) {a1 : Int} (ha1 : inR a1) {a2 : Int} (ha2 : inR a2) {a3 : Int} (ha3 : inR a3) {a4 : Int} (ha4 : inR a4) {S : St} {q : Int × St} (h : fn_Ads_add c0 a1 a2 a3 a4 S = some q) : Ev E M_Ads_add [.ref c0, V a1, V a2, V a3, V a4] (WX X S) 0 0 (KI X q.1 q.2) := by
  refine Ev.of pn_Ads rfl (leK rfl) ?_
  show Go E M_Ads_add 0 0 0 [(0, .ref c0), (1, V a1), (2, V a2), (3, V a3), (4, V a4)] [] (WX X S) 0 0 (KI X q.1 q.2)
  unfold fn_Ads_add at h
  refine g_aloadn (pc := 0) (i0 := 0) (j := 0) (dK D_Ads_add_0 0 rfl) rfl rfl ?_
  refine vg_getI (pc := 1) (ci := 0) (f := 7) (dK D_Ads_add_0 1 rfl) q_116 hc0 (ltK rfl) (ltK rfl) rfl ?_
  refine g_istore (pc := 4) (ls2 := [(5, V (g S c0 7)), (0, .ref c0), (1, V a1), (2, V a2), (3, V a3), (4, V a4)]) (dK D_Ads_add_0 2 rfl) (ltK rfl) rfl ?_
  refine g_iload (pc := 6) (j := 0) (dK D_Ads_add_0 3 rfl) rfl ?_
  refine vg_bipush (pc := 8) (dK D_Ads_add_0 4 rfl) rfl ?_
  refine vg_icmp_lt (pc := 10) (t := 16) (dK D_Ads_add_0 5 rfl) rfl (g_in _ _ _) (inRk rfl) (fun hc10 => ?_) (fun hc10 => ?_)
  · replace h := ifP h hc10
    refine g_aloadn (pc := 16) (i0 := 0) (j := 1) (dK D_Ads_add_0 8 rfl) rfl rfl ?_
    refine vg_getA (pc := 17) (ci := 0) (f := 0) (dK D_Ads_add_0 9 rfl) q_87 hc0 (ltK rfl) (ltK rfl) rfl ?_
    refine g_iload (pc := 20) (j := 0) (dK D_Ads_add_0 10 rfl) rfl ?_
    refine g_iloadn (pc := 22) (i0 := 1) (j := 2) (dK D_Ads_add_0 11 rfl) rfl rfl ?_
    refine gdE h (fun hi1 h => ?_)
    refine nmE h (fun S2 e_S2 h => ?_)
    refine vg_iastore (pc := 23) (z := a1) (dK D_Ads_add_0 12 rfl) (hw_0_0 hc0) rfl hi1 rfl e_S2 ?_
    refine g_aloadn (pc := 24) (i0 := 0) (j := 1) (dK D_Ads_add_0 13 rfl) rfl rfl ?_
    refine vg_getA (pc := 25) (ci := 0) (f := 1) (dK D_Ads_add_0 14 rfl) q_91 hc0 (ltK rfl) (ltK rfl) rfl ?_
    refine g_iload (pc := 28) (j := 0) (dK D_Ads_add_0 15 rfl) rfl ?_
    refine g_iloadn (pc := 30) (i0 := 2) (j := 3) (dK D_Ads_add_0 16 rfl) rfl rfl ?_
    refine nmE h (fun S3 e_S3 h => ?_)
    refine vg_iastore (pc := 31) (z := a2) (dK D_Ads_add_0 17 rfl) (hw_0_1 hc0) rfl hi1 rfl e_S3 ?_
    refine g_aloadn (pc := 32) (i0 := 0) (j := 1) (dK D_Ads_add_0 18 rfl) rfl rfl ?_
    refine vg_getA (pc := 33) (ci := 0) (f := 2) (dK D_Ads_add_0 19 rfl) q_94 hc0 (ltK rfl) (ltK rfl) rfl ?_
    refine g_iload (pc := 36) (j := 0) (dK D_Ads_add_0 20 rfl) rfl ?_
    refine vg_iconst (pc := 38) (dK D_Ads_add_0 21 rfl) ?_
    refine nmE h (fun S4 e_S4 h => ?_)
    refine vg_iastore (pc := 39) (z := 0) (dK D_Ads_add_0 22 rfl) (hw_0_2 hc0) rfl hi1 rfl e_S4 ?_
    refine g_aloadn (pc := 40) (i0 := 0) (j := 1) (dK D_Ads_add_0 23 rfl) rfl rfl ?_
    refine vg_getA (pc := 41) (ci := 0) (f := 3) (dK D_Ads_add_0 24 rfl) q_99 hc0 (ltK rfl) (ltK rfl) rfl ?_
    refine g_iload (pc := 44) (j := 0) (dK D_Ads_add_0 25 rfl) rfl ?_
    refine vg_iconst (pc := 46) (dK D_Ads_add_0 26 rfl) ?_
    refine nmE h (fun S5 e_S5 h => ?_)
    refine vg_iastore (pc := 47) (z := 0) (dK D_Ads_add_0 27 rfl) (hw_0_3 hc0) rfl hi1 rfl e_S5 ?_
    refine g_aloadn (pc := 48) (i0 := 0) (j := 1) (dK D_Ads_add_0 28 rfl) rfl rfl ?_
    refine vg_getA (pc := 49) (ci := 0) (f := 4) (dK D_Ads_add_0 29 rfl) q_103 hc0 (ltK rfl) (ltK rfl) rfl ?_
    refine g_iload (pc := 52) (j := 0) (dK D_Ads_add_0 30 rfl) rfl ?_
    refine g_iloadn (pc := 54) (i0 := 3) (j := 4) (dK D_Ads_add_0 31 rfl) rfl rfl ?_
    refine nmE h (fun S6 e_S6 h => ?_)
    refine vg_iastore (pc := 55) (z := a3) (dK D_Ads_add_0 32 rfl) (hw_0_4 hc0) rfl hi1 rfl e_S6 ?_
    refine g_aloadn (pc := 56) (i0 := 0) (j := 1) (dK D_Ads_add_0 33 rfl) rfl rfl ?_
    refine vg_getA (pc := 57) (ci := 0) (f := 5) (dK D_Ads_add_0 34 rfl) q_107 hc0 (ltK rfl) (ltK rfl) rfl ?_
    refine g_iload (pc := 60) (j := 0) (dK D_Ads_add_0 35 rfl) rfl ?_
    refine g_iload (pc := 62) (j := 5) (dK D_Ads_add_0 36 rfl) rfl ?_
    refine nmE h (fun S7 e_S7 h => ?_)
    refine vg_iastore (pc := 64) (z := a4) (dK D_Ads_add_0 37 rfl) (hw_0_5 hc0) rfl hi1 rfl e_S7 ?_
    refine g_aloadn (pc := 65) (i0 := 0) (j := 1) (dK D_Ads_add_0 38 rfl) rfl rfl ?_
    refine vg_getA (pc := 66) (ci := 0) (f := 6) (dK D_Ads_add_0 39 rfl) q_111 hc0 (ltK rfl) (ltK rfl) rfl ?_
    refine g_iload (pc := 69) (j := 0) (dK D_Ads_add_0 40 rfl) rfl ?_
    refine vg_iconst (pc := 71) (dK D_Ads_add_0 41 rfl) ?_
    refine nmE h (fun S8 e_S8 h => ?_)
    refine vg_iastore (pc := 72) (z := 0) (dK D_Ads_add_0 42 rfl) (hw_0_6 hc0) rfl hi1 rfl e_S8 ?_
    refine g_aloadn (pc := 73) (i0 := 0) (j := 1) (dK D_Ads_add_0 43 rfl) rfl rfl ?_
    refine g_dup (pc := 74) (dK D_Ads_add_0 44 rfl) rfl ?_
    refine vg_getI (pc := 75) (ci := 0) (f := 7) (dK D_Ads_add_0 45 rfl) q_116 hc0 (ltK rfl) (ltK rfl) rfl ?_
    refine vg_iconst (pc := 78) (dK D_Ads_add_0 46 rfl) ?_
    refine vg_iadd (pc := 79) (dK D_Ads_add_0 47 rfl) ?_
    refine nmE h (fun S9 e_S9 h => ?_)
    refine vg_putI (pc := 80) (ci := 0) (f := 7) (z := ((g S8 c0 7) + 1)) (dK D_Ads_add_0 48 rfl) q_116 hc0 (ltK rfl) (ltK rfl) rfl rfl e_S9 ?_
    refine g_iload (pc := 83) (j := 0) (dK D_Ads_add_0 49 rfl) rfl ?_
    exact vg_iretI (pc := 85) (r := (g S c0 7)) (dK D_Ads_add_1 0 rfl) rfl (leK rfl) (leK rfl) (fun _ => rfl) (by obtain rfl := Option.some.inj h; exact ⟨rfl, (g_in _ _ _), rfl⟩)
  · replace h := ifN h hc10
    refine vg_bipush (pc := 13) (dK D_Ads_add_0 6 rfl) rfl ?_
    exact vg_iretI (pc := 15) (r := (-2)) (dK D_Ads_add_0 7 rfl) rfl (leK rfl) (leK rfl) (fun _ => rfl) (by obtain rfl := Option.some.inj h; exact ⟨rfl, (inRk rfl), rfl⟩)
def fn_Reader_readAd (c0 : Nat) (S : St) : Option (Bool × St) := if (g S (tgt (tgt (tgt c0 1) 0) 0) 7) < 40 then (bnO (fn_Reader_readNumber c0 0 1 4 S) fun p1 => if p1.1 = true then (bnO (fn_Reader_firstIsSize c0 p1.2) fun p3 => if p3.1 = true then (bnO (fn_Reader_readNumber c0 1 0 9 p3.2) fun p5 => if p5.1 = true then (bnO (fn_Reader_readNumber c0 2 0 1 p5.2) fun p7 => if p7.1 = true then (bnO (fn_Reader_readNumber c0 3 0 2 p7.2) fun p9 => if p9.1 = true then (bnO (fn_Reader_readNumber c0 4 1 999 p9.2) fun p11 => if p11.1 = true then (bnO (fn_Reader_readNumber c0 5 0 9999 p11.2) fun p13 => if p13.1 = true then (bnO (fn_Ads_add (tgt (tgt (tgt c0 1) 0) 0) (g p13.2 (tgt c0 2) 0) (g p13.2 (tgt c0 2) 1) (g p13.2 (tgt c0 2) 4) (g p13.2 (tgt c0 2) 5) p13.2) fun p15 => if p15.1 < 0 then (bnO (fn_Reader_readSemicolon c0 p15.2) fun p16 => some (p16.1, p16.2)) else (if 0 ≤ p15.1 ∧ p15.1 < 40 then (nm (u p15.2 (tgt (tgt (tgt (tgt c0 1) 0) 0) 2) ((p15.1).toNat) (g p15.2 (tgt c0 2) 2)) fun S18 => nm (u S18 (tgt (tgt (tgt (tgt c0 1) 0) 0) 3) ((p15.1).toNat) (g S18 (tgt c0 2) 3)) fun S19 => bnO (fn_Reader_readSemicolon c0 S19) fun p20 => some (p20.1, p20.2)) else none)) else (some (false, p13.2))) else (some (false, p11.2))) else (some (false, p9.2))) else (some (false, p7.2))) else (some (false, p5.2))) else (some (false, p3.2))) else (some (false, p1.2))) else (bnO (fn_Reader_fail c0 3 S) fun p22 => some (p22.1, p22.2))
theorem tf_Reader_readAd {E : EV} {X : XT} {c0 : Nat} (hc0 : HC X 5 c0) {S : St} {q : Bool × St} (h : fn_Reader_readAd c0 S = some q) : Ev E M_Reader_readAd [.ref c0] (WX X S) 0 0 (KB X q.1 q.2) := by
  refine Ev.of pn_Reader rfl (leK rfl) ?_
  show Go E M_Reader_readAd 0 0 0 [(0, .ref c0)] [] (WX X S) 0 0 (KB X q.1 q.2)
  unfold fn_Reader_readAd at h
  refine g_aloadn (pc := 0) (i0 := 0) (j := 0) (dK D_Reader_readAd_0 0 rfl) rfl rfl ?_
  refine vg_getO (pc := 1) (ci := 5) (f := 1) (dK D_Reader_readAd_0 1 rfl) q_344 hc0 (ltK rfl) (ltK rfl) rfl ?_
  refine vg_getO (pc := 4) (ci := 4) (f := 0) (dK D_Reader_readAd_0 2 rfl) q_304 (hw_5_1 hc0) (ltK rfl) (ltK rfl) rfl ?_
  refine vg_getO (pc := 7) (ci := 8) (f := 0) (dK D_Reader_readAd_0 3 rfl) q_234 (hw_4_0 (hw_5_1 hc0)) (ltK rfl) (ltK rfl) rfl ?_
  refine g_astoren (pc := 10) (i0 := 1) (ls2 := [(1, .ref (tgt (tgt (tgt c0 1) 0) 0)), (0, .ref c0)]) (dK D_Reader_readAd_0 4 rfl) rfl (ltK rfl) rfl ?_
  refine g_aloadn (pc := 11) (i0 := 1) (j := 0) (dK D_Reader_readAd_0 5 rfl) rfl rfl ?_
  refine vg_getI (pc := 12) (ci := 0) (f := 7) (dK D_Reader_readAd_0 6 rfl) q_119 (hw_8_0 (hw_4_0 (hw_5_1 hc0))) (ltK rfl) (ltK rfl) rfl ?_
  refine vg_bipush (pc := 15) (dK D_Reader_readAd_0 7 rfl) rfl ?_
  refine vg_icmp_lt (pc := 17) (t := 26) (dK D_Reader_readAd_0 8 rfl) rfl (g_in _ _ _) (inRk rfl) (fun hc23 => ?_) (fun hc23 => ?_)
  · replace h := ifP h hc23
    refine g_aloadn (pc := 26) (i0 := 0) (j := 1) (dK D_Reader_readAd_0 13 rfl) rfl rfl ?_
    refine vg_iconst (pc := 27) (dK D_Reader_readAd_0 14 rfl) ?_
    refine vg_iconst (pc := 28) (dK D_Reader_readAd_0 15 rfl) ?_
    refine vg_iconst (pc := 29) (dK D_Reader_readAd_0 16 rfl) ?_
    refine bnE h (fun p1 e_p1 h => ?_)
    refine vg_cV (pc := 30) (As := [V 0, V 1, V 4]) (rest := []) (mc' := 0) (ms' := 0) (dK D_Reader_readAd_0 17 rfl) K_Reader_64 (fitK rfl) (ltK rfl) hc0 rfl (leK rfl) (leK rfl) (leK rfl) (tf_Reader_readNumber hc0 (inRk rfl) (inRk rfl) (inRk rfl) e_p1) (kcB ?_)
    refine vg_ifB_eq (pc := 33) (b := p1.1) (t := 98) (dK D_Reader_readAd_0 18 rfl) rfl (fun hc2 => ?_) (fun hc2 => ?_)
    · replace h := ifP h hc2
      refine g_aloadn (pc := 36) (i0 := 0) (j := 1) (dK D_Reader_readAd_0 19 rfl) rfl rfl ?_
      refine bnE h (fun p3 e_p3 h => ?_)
      refine vg_cV (pc := 37) (As := []) (rest := []) (mc' := 0) (ms' := 0) (dK D_Reader_readAd_0 20 rfl) K_Reader_135 (fitK rfl) (ltK rfl) hc0 rfl (leK rfl) (leK rfl) (leK rfl) (tf_Reader_firstIsSize hc0 e_p3) (kcB ?_)
      refine vg_ifB_eq (pc := 40) (b := p3.1) (t := 98) (dK D_Reader_readAd_0 21 rfl) rfl (fun hc4 => ?_) (fun hc4 => ?_)
      · replace h := ifP h hc4
        refine g_aloadn (pc := 43) (i0 := 0) (j := 1) (dK D_Reader_readAd_0 22 rfl) rfl rfl ?_
        refine vg_iconst (pc := 44) (dK D_Reader_readAd_0 23 rfl) ?_
        refine vg_iconst (pc := 45) (dK D_Reader_readAd_0 24 rfl) ?_
        refine vg_bipush (pc := 46) (dK D_Reader_readAd_0 25 rfl) rfl ?_
        refine bnE h (fun p5 e_p5 h => ?_)
        refine vg_cV (pc := 48) (As := [V 1, V 0, V 9]) (rest := []) (mc' := 0) (ms' := 0) (dK D_Reader_readAd_0 26 rfl) K_Reader_64 (fitK rfl) (ltK rfl) hc0 rfl (leK rfl) (leK rfl) (leK rfl) (tf_Reader_readNumber hc0 (inRk rfl) (inRk rfl) (inRk rfl) e_p5) (kcB ?_)
        refine vg_ifB_eq (pc := 51) (b := p5.1) (t := 98) (dK D_Reader_readAd_0 27 rfl) rfl (fun hc6 => ?_) (fun hc6 => ?_)
        · replace h := ifP h hc6
          refine g_aloadn (pc := 54) (i0 := 0) (j := 1) (dK D_Reader_readAd_0 28 rfl) rfl rfl ?_
          refine vg_iconst (pc := 55) (dK D_Reader_readAd_0 29 rfl) ?_
          refine vg_iconst (pc := 56) (dK D_Reader_readAd_0 30 rfl) ?_
          refine vg_iconst (pc := 57) (dK D_Reader_readAd_0 31 rfl) ?_
          refine bnE h (fun p7 e_p7 h => ?_)
          refine vg_cV (pc := 58) (As := [V 2, V 0, V 1]) (rest := []) (mc' := 0) (ms' := 0) (dK D_Reader_readAd_0 32 rfl) K_Reader_64 (fitK rfl) (ltK rfl) hc0 rfl (leK rfl) (leK rfl) (leK rfl) (tf_Reader_readNumber hc0 (inRk rfl) (inRk rfl) (inRk rfl) e_p7) (kcB ?_)
          refine vg_ifB_eq (pc := 61) (b := p7.1) (t := 98) (dK D_Reader_readAd_0 33 rfl) rfl (fun hc8 => ?_) (fun hc8 => ?_)
          · replace h := ifP h hc8
            refine g_aloadn (pc := 64) (i0 := 0) (j := 1) (dK D_Reader_readAd_0 34 rfl) rfl rfl ?_
            refine vg_iconst (pc := 65) (dK D_Reader_readAd_0 35 rfl) ?_
            refine vg_iconst (pc := 66) (dK D_Reader_readAd_0 36 rfl) ?_
            refine vg_iconst (pc := 67) (dK D_Reader_readAd_0 37 rfl) ?_
            refine bnE h (fun p9 e_p9 h => ?_)
            refine vg_cV (pc := 68) (As := [V 3, V 0, V 2]) (rest := []) (mc' := 0) (ms' := 0) (dK D_Reader_readAd_0 38 rfl) K_Reader_64 (fitK rfl) (ltK rfl) hc0 rfl (leK rfl) (leK rfl) (leK rfl) (tf_Reader_readNumber hc0 (inRk rfl) (inRk rfl) (inRk rfl) e_p9) (kcB ?_)
            refine vg_ifB_eq (pc := 71) (b := p9.1) (t := 98) (dK D_Reader_readAd_0 39 rfl) rfl (fun hc10 => ?_) (fun hc10 => ?_)
            · replace h := ifP h hc10
              refine g_aloadn (pc := 74) (i0 := 0) (j := 1) (dK D_Reader_readAd_0 40 rfl) rfl rfl ?_
              refine vg_iconst (pc := 75) (dK D_Reader_readAd_0 41 rfl) ?_
              refine vg_iconst (pc := 76) (dK D_Reader_readAd_0 42 rfl) ?_
              refine vg_sipush (pc := 77) (dK D_Reader_readAd_0 43 rfl) rfl ?_
              refine bnE h (fun p11 e_p11 h => ?_)
              refine vg_cV (pc := 80) (As := [V 4, V 1, V 999]) (rest := []) (mc' := 0) (ms' := 0) (dK D_Reader_readAd_0 44 rfl) K_Reader_64 (fitK rfl) (ltK rfl) hc0 rfl (leK rfl) (leK rfl) (leK rfl) (tf_Reader_readNumber hc0 (inRk rfl) (inRk rfl) (inRk rfl) e_p11) (kcB ?_)
              refine vg_ifB_eq (pc := 83) (b := p11.1) (t := 98) (dK D_Reader_readAd_0 45 rfl) rfl (fun hc12 => ?_) (fun hc12 => ?_)
              · replace h := ifP h hc12
                refine g_aloadn (pc := 86) (i0 := 0) (j := 1) (dK D_Reader_readAd_0 46 rfl) rfl rfl ?_
                refine vg_iconst (pc := 87) (dK D_Reader_readAd_0 47 rfl) ?_
                refine vg_iconst (pc := 88) (dK D_Reader_readAd_0 48 rfl) ?_
                refine vg_sipush (pc := 89) (dK D_Reader_readAd_0 49 rfl) rfl ?_
                refine bnE h (fun p13 e_p13 h => ?_)
                refine vg_cV (pc := 92) (As := [V 5, V 0, V 9999]) (rest := []) (mc' := 0) (ms' := 0) (dK D_Reader_readAd_1 0 rfl) K_Reader_64 (fitK rfl) (ltK rfl) hc0 rfl (leK rfl) (leK rfl) (leK rfl) (tf_Reader_readNumber hc0 (inRk rfl) (inRk rfl) (inRk rfl) e_p13) (kcB ?_)
                refine vg_ifB_ne (pc := 95) (b := p13.1) (t := 100) (dK D_Reader_readAd_1 1 rfl) rfl (fun hc14 => ?_) (fun hc14 => ?_)
                · replace h := ifP h hc14
                  refine g_aloadn (pc := 100) (i0 := 1) (j := 0) (dK D_Reader_readAd_1 4 rfl) rfl rfl ?_
                  refine g_aloadn (pc := 101) (i0 := 0) (j := 1) (dK D_Reader_readAd_1 5 rfl) rfl rfl ?_
                  refine vg_getA (pc := 102) (ci := 5) (f := 2) (dK D_Reader_readAd_1 6 rfl) q_346 hc0 (ltK rfl) (ltK rfl) rfl ?_
                  refine vg_iconst (pc := 105) (dK D_Reader_readAd_1 7 rfl) ?_
                  refine vg_iaload (pc := 106) (j := 0) (dK D_Reader_readAd_1 8 rfl) (hw_5_2 hc0) rfl ⟨by decide, by decide⟩ rfl ?_
                  refine g_aloadn (pc := 107) (i0 := 0) (j := 1) (dK D_Reader_readAd_1 9 rfl) rfl rfl ?_
                  refine vg_getA (pc := 108) (ci := 5) (f := 2) (dK D_Reader_readAd_1 10 rfl) q_346 hc0 (ltK rfl) (ltK rfl) rfl ?_
                  refine vg_iconst (pc := 111) (dK D_Reader_readAd_1 11 rfl) ?_
                  refine vg_iaload (pc := 112) (j := 1) (dK D_Reader_readAd_1 12 rfl) (hw_5_2 hc0) rfl ⟨by decide, by decide⟩ rfl ?_
                  refine g_aloadn (pc := 113) (i0 := 0) (j := 1) (dK D_Reader_readAd_1 13 rfl) rfl rfl ?_
                  refine vg_getA (pc := 114) (ci := 5) (f := 2) (dK D_Reader_readAd_1 14 rfl) q_346 hc0 (ltK rfl) (ltK rfl) rfl ?_
                  refine vg_iconst (pc := 117) (dK D_Reader_readAd_1 15 rfl) ?_
                  refine vg_iaload (pc := 118) (j := 4) (dK D_Reader_readAd_1 16 rfl) (hw_5_2 hc0) rfl ⟨by decide, by decide⟩ rfl ?_
                  refine g_aloadn (pc := 119) (i0 := 0) (j := 1) (dK D_Reader_readAd_1 17 rfl) rfl rfl ?_
                  refine vg_getA (pc := 120) (ci := 5) (f := 2) (dK D_Reader_readAd_1 18 rfl) q_346 hc0 (ltK rfl) (ltK rfl) rfl ?_
                  refine vg_iconst (pc := 123) (dK D_Reader_readAd_1 19 rfl) ?_
                  refine vg_iaload (pc := 124) (j := 5) (dK D_Reader_readAd_1 20 rfl) (hw_5_2 hc0) rfl ⟨by decide, by decide⟩ rfl ?_
                  refine bnE h (fun p15 e_p15 h => ?_)
                  refine vg_cV (pc := 125) (As := [V (g p13.2 (tgt c0 2) 0), V (g p13.2 (tgt c0 2) 1), V (g p13.2 (tgt c0 2) 4), V (g p13.2 (tgt c0 2) 5)]) (rest := []) (mc' := 0) (ms' := 0) (dK D_Reader_readAd_1 21 rfl) K_Reader_138 (fitK rfl) (ltK rfl) (hw_8_0 (hw_4_0 (hw_5_1 hc0))) rfl (leK rfl) (leK rfl) (leK rfl) (tf_Ads_add (hw_8_0 (hw_4_0 (hw_5_1 hc0))) (g_in _ _ _) (g_in _ _ _) (g_in _ _ _) (g_in _ _ _) e_p15) (kcI (fun h_p15 => ?_))
                  refine g_istoren (pc := 128) (i0 := 2) (ls2 := [(2, V p15.1), (1, .ref (tgt (tgt (tgt c0 1) 0) 0)), (0, .ref c0)]) (dK D_Reader_readAd_1 22 rfl) rfl (ltK rfl) rfl ?_
                  refine g_iloadn (pc := 129) (i0 := 2) (j := 0) (dK D_Reader_readAd_1 23 rfl) rfl rfl ?_
                  refine vg_if_lt (pc := 130) (t := 157) (dK D_Reader_readAd_1 24 rfl) rfl h_p15 (fun hc21 => ?_) (fun hc21 => ?_)
                  · replace h := ifP h hc21
                    refine g_aloadn (pc := 157) (i0 := 0) (j := 2) (dK D_Reader_readAd_1 41 rfl) rfl rfl ?_
                    refine bnE h (fun p16 e_p16 h => ?_)
                    refine vg_cV (pc := 158) (As := []) (rest := []) (mc' := 0) (ms' := 0) (dK D_Reader_readAd_1 42 rfl) K_Reader_72 (fitK rfl) (ltK rfl) hc0 rfl (leK rfl) (leK rfl) (leK rfl) (tf_Reader_readSemicolon hc0 e_p16) (kcB ?_)
                    exact vg_iretB (pc := 161) (b := p16.1) (dK D_Reader_readAd_1 43 rfl) rfl (leK rfl) (leK rfl) (fun _ => rfl) (by obtain rfl := Option.some.inj h; exact ⟨rfl, rfl⟩)
                  · replace h := ifN h hc21
                    refine g_aloadn (pc := 133) (i0 := 1) (j := 1) (dK D_Reader_readAd_1 25 rfl) rfl rfl ?_
                    refine vg_getA (pc := 134) (ci := 0) (f := 2) (dK D_Reader_readAd_1 26 rfl) q_95 (hw_8_0 (hw_4_0 (hw_5_1 hc0))) (ltK rfl) (ltK rfl) rfl ?_
                    refine g_iloadn (pc := 137) (i0 := 2) (j := 0) (dK D_Reader_readAd_1 27 rfl) rfl rfl ?_
                    refine g_aloadn (pc := 138) (i0 := 0) (j := 2) (dK D_Reader_readAd_1 28 rfl) rfl rfl ?_
                    refine vg_getA (pc := 139) (ci := 5) (f := 2) (dK D_Reader_readAd_1 29 rfl) q_346 hc0 (ltK rfl) (ltK rfl) rfl ?_
                    refine vg_iconst (pc := 142) (dK D_Reader_readAd_1 30 rfl) ?_
                    refine vg_iaload (pc := 143) (j := 2) (dK D_Reader_readAd_1 31 rfl) (hw_5_2 hc0) rfl ⟨by decide, by decide⟩ rfl ?_
                    refine gdE h (fun hi17 h => ?_)
                    refine nmE h (fun S18 e_S18 h => ?_)
                    refine vg_iastore (pc := 144) (z := (g p15.2 (tgt c0 2) 2)) (dK D_Reader_readAd_1 32 rfl) (hw_0_2 (hw_8_0 (hw_4_0 (hw_5_1 hc0)))) rfl hi17 rfl e_S18 ?_
                    refine g_aloadn (pc := 145) (i0 := 1) (j := 1) (dK D_Reader_readAd_1 33 rfl) rfl rfl ?_
                    refine vg_getA (pc := 146) (ci := 0) (f := 3) (dK D_Reader_readAd_1 34 rfl) q_100 (hw_8_0 (hw_4_0 (hw_5_1 hc0))) (ltK rfl) (ltK rfl) rfl ?_
                    refine g_iloadn (pc := 149) (i0 := 2) (j := 0) (dK D_Reader_readAd_1 35 rfl) rfl rfl ?_
                    refine g_aloadn (pc := 150) (i0 := 0) (j := 2) (dK D_Reader_readAd_1 36 rfl) rfl rfl ?_
                    refine vg_getA (pc := 151) (ci := 5) (f := 2) (dK D_Reader_readAd_1 37 rfl) q_346 hc0 (ltK rfl) (ltK rfl) rfl ?_
                    refine vg_iconst (pc := 154) (dK D_Reader_readAd_1 38 rfl) ?_
                    refine vg_iaload (pc := 155) (j := 3) (dK D_Reader_readAd_1 39 rfl) (hw_5_2 hc0) rfl ⟨by decide, by decide⟩ rfl ?_
                    refine nmE h (fun S19 e_S19 h => ?_)
                    refine vg_iastore (pc := 156) (z := (g S18 (tgt c0 2) 3)) (dK D_Reader_readAd_1 40 rfl) (hw_0_3 (hw_8_0 (hw_4_0 (hw_5_1 hc0)))) rfl hi17 rfl e_S19 ?_
                    refine g_aloadn (pc := 157) (i0 := 0) (j := 2) (dK D_Reader_readAd_1 41 rfl) rfl rfl ?_
                    refine bnE h (fun p20 e_p20 h => ?_)
                    refine vg_cV (pc := 158) (As := []) (rest := []) (mc' := 0) (ms' := 0) (dK D_Reader_readAd_1 42 rfl) K_Reader_72 (fitK rfl) (ltK rfl) hc0 rfl (leK rfl) (leK rfl) (leK rfl) (tf_Reader_readSemicolon hc0 e_p20) (kcB ?_)
                    exact vg_iretB (pc := 161) (b := p20.1) (dK D_Reader_readAd_1 43 rfl) rfl (leK rfl) (leK rfl) (fun _ => rfl) (by obtain rfl := Option.some.inj h; exact ⟨rfl, rfl⟩)
                · replace h := ifN h hc14
                  refine vg_iconst (pc := 98) (dK D_Reader_readAd_1 2 rfl) ?_
                  exact vg_iretB (pc := 99) (b := false) (dK D_Reader_readAd_1 3 rfl) rfl (leK rfl) (leK rfl) (fun _ => rfl) (by obtain rfl := Option.some.inj h; exact ⟨rfl, rfl⟩)
              · replace h := ifN h hc12
                refine vg_iconst (pc := 98) (dK D_Reader_readAd_1 2 rfl) ?_
                exact vg_iretB (pc := 99) (b := false) (dK D_Reader_readAd_1 3 rfl) rfl (leK rfl) (leK rfl) (fun _ => rfl) (by obtain rfl := Option.some.inj h; exact ⟨rfl, rfl⟩)
            · replace h := ifN h hc10
              refine vg_iconst (pc := 98) (dK D_Reader_readAd_1 2 rfl) ?_
              exact vg_iretB (pc := 99) (b := false) (dK D_Reader_readAd_1 3 rfl) rfl (leK rfl) (leK rfl) (fun _ => rfl) (by obtain rfl := Option.some.inj h; exact ⟨rfl, rfl⟩)
          · replace h := ifN h hc8
            refine vg_iconst (pc := 98) (dK D_Reader_readAd_1 2 rfl) ?_
            exact vg_iretB (pc := 99) (b := false) (dK D_Reader_readAd_1 3 rfl) rfl (leK rfl) (leK rfl) (fun _ => rfl) (by obtain rfl := Option.some.inj h; exact ⟨rfl, rfl⟩)
        · replace h := ifN h hc6
          refine vg_iconst (pc := 98) (dK D_Reader_readAd_1 2 rfl) ?_
          exact vg_iretB (pc := 99) (b := false) (dK D_Reader_readAd_1 3 rfl) rfl (leK rfl) (leK rfl) (fun _ => rfl) (by obtain rfl := Option.some.inj h; exact ⟨rfl, rfl⟩)
      · replace h := ifN h hc4
        refine vg_iconst (pc := 98) (dK D_Reader_readAd_1 2 rfl) ?_
        exact vg_iretB (pc := 99) (b := false) (dK D_Reader_readAd_1 3 rfl) rfl (leK rfl) (leK rfl) (fun _ => rfl) (by obtain rfl := Option.some.inj h; exact ⟨rfl, rfl⟩)
    · replace h := ifN h hc2
      refine vg_iconst (pc := 98) (dK D_Reader_readAd_1 2 rfl) ?_
      exact vg_iretB (pc := 99) (b := false) (dK D_Reader_readAd_1 3 rfl) rfl (leK rfl) (leK rfl) (fun _ => rfl) (by obtain rfl := Option.some.inj h; exact ⟨rfl, rfl⟩)
  · replace h := ifN h hc23
    refine g_aloadn (pc := 20) (i0 := 0) (j := 1) (dK D_Reader_readAd_0 9 rfl) rfl rfl ?_
    refine vg_iconst (pc := 21) (dK D_Reader_readAd_0 10 rfl) ?_
    refine bnE h (fun p22 e_p22 h => ?_)
    refine vg_cV (pc := 22) (As := [V 3]) (rest := []) (mc' := 0) (ms' := 0) (dK D_Reader_readAd_0 11 rfl) K_Reader_68 (fitK rfl) (ltK rfl) hc0 rfl (leK rfl) (leK rfl) (leK rfl) (tf_Reader_fail hc0 (inRk rfl) e_p22) (kcB ?_)
    exact vg_iretB (pc := 25) (b := p22.1) (dK D_Reader_readAd_0 12 rfl) rfl (leK rfl) (leK rfl) (fun _ => rfl) (by obtain rfl := Option.some.inj h; exact ⟨rfl, rfl⟩)
def fn_Stories_add (c0 : Nat) (a1 : Int) (a2 : Int) (a3 : Int) (a4 : Int) (S : St) : Option (St) := if 10 ≤ (g S c0 5) then (some S) else (if 0 ≤ (g S c0 5) ∧ (g S c0 5) < 10 then (nm (u S (tgt c0 0) (((g S c0 5)).toNat) a1) fun S2 => if 0 ≤ (g S2 c0 5) ∧ (g S2 c0 5) < 10 then (nm (u S2 (tgt c0 1) (((g S2 c0 5)).toNat) a2) fun S4 => if 0 ≤ (g S4 c0 5) ∧ (g S4 c0 5) < 10 then (nm (u S4 (tgt c0 2) (((g S4 c0 5)).toNat) a3) fun S6 => if 0 ≤ (g S6 c0 5) ∧ (g S6 c0 5) < 10 then (nm (u S6 (tgt c0 3) (((g S6 c0 5)).toNat) a4) fun S8 => if 0 ≤ (g S8 c0 5) ∧ (g S8 c0 5) < 10 then (nm (u S8 (tgt c0 4) (((g S8 c0 5)).toNat) 0) fun S10 => nm (u S10 c0 5 ((g S10 c0 5) + 1)) fun S11 => some S11) else none) else none) else none) else none) else none)
theorem tf_Stories_add {E : EV} {X : XT} {c0 : Nat} (hc0 : HC X 9 c0) {a1 : Int} (ha1 : inR a1) {a2 : Int} (ha2 : inR a2) {a3 : Int} (ha3 : inR a3) {a4 : Int} (ha4 : inR a4) {S : St} {q : St} (h : fn_Stories_add c0 a1 a2 a3 a4 S = some q) : Ev E M_Stories_add [.ref c0, V a1, V a2, V a3, V a4] (WX X S) 0 0 (KU X q) := by
  refine Ev.of pn_Stories rfl (leK rfl) ?_
  show Go E M_Stories_add 0 0 0 [(0, .ref c0), (1, V a1), (2, V a2), (3, V a3), (4, V a4)] [] (WX X S) 0 0 (KU X q)
  unfold fn_Stories_add at h
  refine g_aloadn (pc := 0) (i0 := 0) (j := 0) (dK D_Stories_add 0 rfl) rfl rfl ?_
  refine vg_getI (pc := 1) (ci := 9) (f := 5) (dK D_Stories_add 1 rfl) q_164 hc0 (ltK rfl) (ltK rfl) rfl ?_
  refine vg_bipush (pc := 4) (dK D_Stories_add 2 rfl) rfl ?_
  refine vg_icmp_ge (pc := 6) (t := 70) (dK D_Stories_add 3 rfl) rfl (g_in _ _ _) (inRk rfl) (fun hc12 => ?_) (fun hc12 => ?_)
  · replace h := ifP h hc12
    exact g_return (pc := 70) (dK D_Stories_add 40 rfl) rfl (leK rfl) (leK rfl) (fun _ => rfl) (by obtain rfl := Option.some.inj h; exact ⟨rfl, rfl⟩)
  · replace h := ifN h hc12
    refine g_aloadn (pc := 9) (i0 := 0) (j := 0) (dK D_Stories_add 4 rfl) rfl rfl ?_
    refine vg_getA (pc := 10) (ci := 9) (f := 0) (dK D_Stories_add 5 rfl) q_144 hc0 (ltK rfl) (ltK rfl) rfl ?_
    refine g_aloadn (pc := 13) (i0 := 0) (j := 0) (dK D_Stories_add 6 rfl) rfl rfl ?_
    refine vg_getI (pc := 14) (ci := 9) (f := 5) (dK D_Stories_add 7 rfl) q_164 hc0 (ltK rfl) (ltK rfl) rfl ?_
    refine g_iloadn (pc := 17) (i0 := 1) (j := 1) (dK D_Stories_add 8 rfl) rfl rfl ?_
    refine gdE h (fun hi1 h => ?_)
    refine nmE h (fun S2 e_S2 h => ?_)
    refine vg_iastore (pc := 18) (z := a1) (dK D_Stories_add 9 rfl) (hw_9_0 hc0) rfl hi1 rfl e_S2 ?_
    refine g_aloadn (pc := 19) (i0 := 0) (j := 0) (dK D_Stories_add 10 rfl) rfl rfl ?_
    refine vg_getA (pc := 20) (ci := 9) (f := 1) (dK D_Stories_add 11 rfl) q_148 hc0 (ltK rfl) (ltK rfl) rfl ?_
    refine g_aloadn (pc := 23) (i0 := 0) (j := 0) (dK D_Stories_add 12 rfl) rfl rfl ?_
    refine vg_getI (pc := 24) (ci := 9) (f := 5) (dK D_Stories_add 13 rfl) q_164 hc0 (ltK rfl) (ltK rfl) rfl ?_
    refine g_iloadn (pc := 27) (i0 := 2) (j := 2) (dK D_Stories_add 14 rfl) rfl rfl ?_
    refine gdE h (fun hi3 h => ?_)
    refine nmE h (fun S4 e_S4 h => ?_)
    refine vg_iastore (pc := 28) (z := a2) (dK D_Stories_add 15 rfl) (hw_9_1 hc0) rfl hi3 rfl e_S4 ?_
    refine g_aloadn (pc := 29) (i0 := 0) (j := 0) (dK D_Stories_add 16 rfl) rfl rfl ?_
    refine vg_getA (pc := 30) (ci := 9) (f := 2) (dK D_Stories_add 17 rfl) q_152 hc0 (ltK rfl) (ltK rfl) rfl ?_
    refine g_aloadn (pc := 33) (i0 := 0) (j := 0) (dK D_Stories_add 18 rfl) rfl rfl ?_
    refine vg_getI (pc := 34) (ci := 9) (f := 5) (dK D_Stories_add 19 rfl) q_164 hc0 (ltK rfl) (ltK rfl) rfl ?_
    refine g_iloadn (pc := 37) (i0 := 3) (j := 3) (dK D_Stories_add 20 rfl) rfl rfl ?_
    refine gdE h (fun hi5 h => ?_)
    refine nmE h (fun S6 e_S6 h => ?_)
    refine vg_iastore (pc := 38) (z := a3) (dK D_Stories_add 21 rfl) (hw_9_2 hc0) rfl hi5 rfl e_S6 ?_
    refine g_aloadn (pc := 39) (i0 := 0) (j := 0) (dK D_Stories_add 22 rfl) rfl rfl ?_
    refine vg_getA (pc := 40) (ci := 9) (f := 3) (dK D_Stories_add 23 rfl) q_155 hc0 (ltK rfl) (ltK rfl) rfl ?_
    refine g_aloadn (pc := 43) (i0 := 0) (j := 0) (dK D_Stories_add 24 rfl) rfl rfl ?_
    refine vg_getI (pc := 44) (ci := 9) (f := 5) (dK D_Stories_add 25 rfl) q_164 hc0 (ltK rfl) (ltK rfl) rfl ?_
    refine g_iload (pc := 47) (j := 4) (dK D_Stories_add 26 rfl) rfl ?_
    refine gdE h (fun hi7 h => ?_)
    refine nmE h (fun S8 e_S8 h => ?_)
    refine vg_iastore (pc := 49) (z := a4) (dK D_Stories_add 27 rfl) (hw_9_3 hc0) rfl hi7 rfl e_S8 ?_
    refine g_aloadn (pc := 50) (i0 := 0) (j := 0) (dK D_Stories_add 28 rfl) rfl rfl ?_
    refine vg_getA (pc := 51) (ci := 9) (f := 4) (dK D_Stories_add 29 rfl) q_159 hc0 (ltK rfl) (ltK rfl) rfl ?_
    refine g_aloadn (pc := 54) (i0 := 0) (j := 0) (dK D_Stories_add 30 rfl) rfl rfl ?_
    refine vg_getI (pc := 55) (ci := 9) (f := 5) (dK D_Stories_add 31 rfl) q_164 hc0 (ltK rfl) (ltK rfl) rfl ?_
    refine vg_iconst (pc := 58) (dK D_Stories_add 32 rfl) ?_
    refine gdE h (fun hi9 h => ?_)
    refine nmE h (fun S10 e_S10 h => ?_)
    refine vg_iastore (pc := 59) (z := 0) (dK D_Stories_add 33 rfl) (hw_9_4 hc0) rfl hi9 rfl e_S10 ?_
    refine g_aloadn (pc := 60) (i0 := 0) (j := 0) (dK D_Stories_add 34 rfl) rfl rfl ?_
    refine g_dup (pc := 61) (dK D_Stories_add 35 rfl) rfl ?_
    refine vg_getI (pc := 62) (ci := 9) (f := 5) (dK D_Stories_add 36 rfl) q_164 hc0 (ltK rfl) (ltK rfl) rfl ?_
    refine vg_iconst (pc := 65) (dK D_Stories_add 37 rfl) ?_
    refine vg_iadd (pc := 66) (dK D_Stories_add 38 rfl) ?_
    refine nmE h (fun S11 e_S11 h => ?_)
    refine vg_putI (pc := 67) (ci := 9) (f := 5) (z := ((g S10 c0 5) + 1)) (dK D_Stories_add 39 rfl) q_164 hc0 (ltK rfl) (ltK rfl) rfl rfl e_S11 ?_
    exact g_return (pc := 70) (dK D_Stories_add 40 rfl) rfl (leK rfl) (leK rfl) (fun _ => rfl) (by obtain rfl := Option.some.inj h; exact ⟨rfl, rfl⟩)
def fn_Reader_readStory (c0 : Nat) (S : St) : Option (Bool × St) := if (g S (tgt (tgt (tgt c0 1) 0) 1) 5) < 10 then (bnO (fn_Reader_readNumber c0 0 1 8 S) fun p1 => if p1.1 = true then (bnO (fn_Reader_readNumber c0 1 0 1 p1.2) fun p3 => if p3.1 = true then (bnO (fn_Reader_readNumber c0 2 0 2 p3.2) fun p5 => if p5.1 = true then (bnO (fn_Reader_readNumber c0 3 0 9999 p5.2) fun p7 => if p7.1 = true then (bnO (fn_Stories_add (tgt (tgt (tgt c0 1) 0) 1) (g p7.2 (tgt c0 2) 0) (g p7.2 (tgt c0 2) 1) (g p7.2 (tgt c0 2) 2) (g p7.2 (tgt c0 2) 3) p7.2) fun p9 => bnO (fn_Reader_readSemicolon c0 p9) fun p10 => some (p10.1, p10.2)) else (some (false, p7.2))) else (some (false, p5.2))) else (some (false, p3.2))) else (some (false, p1.2))) else (bnO (fn_Reader_fail c0 3 S) fun p11 => some (p11.1, p11.2))
theorem tf_Reader_readStory {E : EV} {X : XT} {c0 : Nat} (hc0 : HC X 5 c0) {S : St} {q : Bool × St} (h : fn_Reader_readStory c0 S = some q) : Ev E M_Reader_readStory [.ref c0] (WX X S) 0 0 (KB X q.1 q.2) := by
  refine Ev.of pn_Reader rfl (leK rfl) ?_
  show Go E M_Reader_readStory 0 0 0 [(0, .ref c0)] [] (WX X S) 0 0 (KB X q.1 q.2)
  unfold fn_Reader_readStory at h
  refine g_aloadn (pc := 0) (i0 := 0) (j := 0) (dK D_Reader_readStory_0 0 rfl) rfl rfl ?_
  refine vg_getO (pc := 1) (ci := 5) (f := 1) (dK D_Reader_readStory_0 1 rfl) q_344 hc0 (ltK rfl) (ltK rfl) rfl ?_
  refine vg_getO (pc := 4) (ci := 4) (f := 0) (dK D_Reader_readStory_0 2 rfl) q_304 (hw_5_1 hc0) (ltK rfl) (ltK rfl) rfl ?_
  refine vg_getO (pc := 7) (ci := 8) (f := 1) (dK D_Reader_readStory_0 3 rfl) q_239 (hw_4_0 (hw_5_1 hc0)) (ltK rfl) (ltK rfl) rfl ?_
  refine vg_getI (pc := 10) (ci := 9) (f := 5) (dK D_Reader_readStory_0 4 rfl) q_167 (hw_8_1 (hw_4_0 (hw_5_1 hc0))) (ltK rfl) (ltK rfl) rfl ?_
  refine vg_bipush (pc := 13) (dK D_Reader_readStory_0 5 rfl) rfl ?_
  refine vg_icmp_lt (pc := 15) (t := 24) (dK D_Reader_readStory_0 6 rfl) rfl (g_in _ _ _) (inRk rfl) (fun hc12 => ?_) (fun hc12 => ?_)
  · replace h := ifP h hc12
    refine g_aloadn (pc := 24) (i0 := 0) (j := 0) (dK D_Reader_readStory_0 11 rfl) rfl rfl ?_
    refine vg_iconst (pc := 25) (dK D_Reader_readStory_0 12 rfl) ?_
    refine vg_iconst (pc := 26) (dK D_Reader_readStory_0 13 rfl) ?_
    refine vg_bipush (pc := 27) (dK D_Reader_readStory_0 14 rfl) rfl ?_
    refine bnE h (fun p1 e_p1 h => ?_)
    refine vg_cV (pc := 29) (As := [V 0, V 1, V 8]) (rest := []) (mc' := 0) (ms' := 0) (dK D_Reader_readStory_0 15 rfl) K_Reader_64 (fitK rfl) (ltK rfl) hc0 rfl (leK rfl) (leK rfl) (leK rfl) (tf_Reader_readNumber hc0 (inRk rfl) (inRk rfl) (inRk rfl) e_p1) (kcB ?_)
    refine vg_ifB_eq (pc := 32) (b := p1.1) (t := 67) (dK D_Reader_readStory_0 16 rfl) rfl (fun hc2 => ?_) (fun hc2 => ?_)
    · replace h := ifP h hc2
      refine g_aloadn (pc := 35) (i0 := 0) (j := 0) (dK D_Reader_readStory_0 17 rfl) rfl rfl ?_
      refine vg_iconst (pc := 36) (dK D_Reader_readStory_0 18 rfl) ?_
      refine vg_iconst (pc := 37) (dK D_Reader_readStory_0 19 rfl) ?_
      refine vg_iconst (pc := 38) (dK D_Reader_readStory_0 20 rfl) ?_
      refine bnE h (fun p3 e_p3 h => ?_)
      refine vg_cV (pc := 39) (As := [V 1, V 0, V 1]) (rest := []) (mc' := 0) (ms' := 0) (dK D_Reader_readStory_0 21 rfl) K_Reader_64 (fitK rfl) (ltK rfl) hc0 rfl (leK rfl) (leK rfl) (leK rfl) (tf_Reader_readNumber hc0 (inRk rfl) (inRk rfl) (inRk rfl) e_p3) (kcB ?_)
      refine vg_ifB_eq (pc := 42) (b := p3.1) (t := 67) (dK D_Reader_readStory_0 22 rfl) rfl (fun hc4 => ?_) (fun hc4 => ?_)
      · replace h := ifP h hc4
        refine g_aloadn (pc := 45) (i0 := 0) (j := 0) (dK D_Reader_readStory_0 23 rfl) rfl rfl ?_
        refine vg_iconst (pc := 46) (dK D_Reader_readStory_0 24 rfl) ?_
        refine vg_iconst (pc := 47) (dK D_Reader_readStory_0 25 rfl) ?_
        refine vg_iconst (pc := 48) (dK D_Reader_readStory_0 26 rfl) ?_
        refine bnE h (fun p5 e_p5 h => ?_)
        refine vg_cV (pc := 49) (As := [V 2, V 0, V 2]) (rest := []) (mc' := 0) (ms' := 0) (dK D_Reader_readStory_0 27 rfl) K_Reader_64 (fitK rfl) (ltK rfl) hc0 rfl (leK rfl) (leK rfl) (leK rfl) (tf_Reader_readNumber hc0 (inRk rfl) (inRk rfl) (inRk rfl) e_p5) (kcB ?_)
        refine vg_ifB_eq (pc := 52) (b := p5.1) (t := 67) (dK D_Reader_readStory_0 28 rfl) rfl (fun hc6 => ?_) (fun hc6 => ?_)
        · replace h := ifP h hc6
          refine g_aloadn (pc := 55) (i0 := 0) (j := 0) (dK D_Reader_readStory_0 29 rfl) rfl rfl ?_
          refine vg_iconst (pc := 56) (dK D_Reader_readStory_0 30 rfl) ?_
          refine vg_iconst (pc := 57) (dK D_Reader_readStory_0 31 rfl) ?_
          refine vg_sipush (pc := 58) (dK D_Reader_readStory_0 32 rfl) rfl ?_
          refine bnE h (fun p7 e_p7 h => ?_)
          refine vg_cV (pc := 61) (As := [V 3, V 0, V 9999]) (rest := []) (mc' := 0) (ms' := 0) (dK D_Reader_readStory_0 33 rfl) K_Reader_64 (fitK rfl) (ltK rfl) hc0 rfl (leK rfl) (leK rfl) (leK rfl) (tf_Reader_readNumber hc0 (inRk rfl) (inRk rfl) (inRk rfl) e_p7) (kcB ?_)
          refine vg_ifB_ne (pc := 64) (b := p7.1) (t := 69) (dK D_Reader_readStory_0 34 rfl) rfl (fun hc8 => ?_) (fun hc8 => ?_)
          · replace h := ifP h hc8
            refine g_aloadn (pc := 69) (i0 := 0) (j := 0) (dK D_Reader_readStory_0 37 rfl) rfl rfl ?_
            refine vg_getO (pc := 70) (ci := 5) (f := 1) (dK D_Reader_readStory_0 38 rfl) q_344 hc0 (ltK rfl) (ltK rfl) rfl ?_
            refine vg_getO (pc := 73) (ci := 4) (f := 0) (dK D_Reader_readStory_0 39 rfl) q_304 (hw_5_1 hc0) (ltK rfl) (ltK rfl) rfl ?_
            refine vg_getO (pc := 76) (ci := 8) (f := 1) (dK D_Reader_readStory_0 40 rfl) q_239 (hw_4_0 (hw_5_1 hc0)) (ltK rfl) (ltK rfl) rfl ?_
            refine g_aloadn (pc := 79) (i0 := 0) (j := 0) (dK D_Reader_readStory_0 41 rfl) rfl rfl ?_
            refine vg_getA (pc := 80) (ci := 5) (f := 2) (dK D_Reader_readStory_0 42 rfl) q_346 hc0 (ltK rfl) (ltK rfl) rfl ?_
            refine vg_iconst (pc := 83) (dK D_Reader_readStory_0 43 rfl) ?_
            refine vg_iaload (pc := 84) (j := 0) (dK D_Reader_readStory_0 44 rfl) (hw_5_2 hc0) rfl ⟨by decide, by decide⟩ rfl ?_
            refine g_aloadn (pc := 85) (i0 := 0) (j := 0) (dK D_Reader_readStory_0 45 rfl) rfl rfl ?_
            refine vg_getA (pc := 86) (ci := 5) (f := 2) (dK D_Reader_readStory_0 46 rfl) q_346 hc0 (ltK rfl) (ltK rfl) rfl ?_
            refine vg_iconst (pc := 89) (dK D_Reader_readStory_0 47 rfl) ?_
            refine vg_iaload (pc := 90) (j := 1) (dK D_Reader_readStory_0 48 rfl) (hw_5_2 hc0) rfl ⟨by decide, by decide⟩ rfl ?_
            refine g_aloadn (pc := 91) (i0 := 0) (j := 0) (dK D_Reader_readStory_0 49 rfl) rfl rfl ?_
            refine vg_getA (pc := 92) (ci := 5) (f := 2) (dK D_Reader_readStory_1 0 rfl) q_346 hc0 (ltK rfl) (ltK rfl) rfl ?_
            refine vg_iconst (pc := 95) (dK D_Reader_readStory_1 1 rfl) ?_
            refine vg_iaload (pc := 96) (j := 2) (dK D_Reader_readStory_1 2 rfl) (hw_5_2 hc0) rfl ⟨by decide, by decide⟩ rfl ?_
            refine g_aloadn (pc := 97) (i0 := 0) (j := 0) (dK D_Reader_readStory_1 3 rfl) rfl rfl ?_
            refine vg_getA (pc := 98) (ci := 5) (f := 2) (dK D_Reader_readStory_1 4 rfl) q_346 hc0 (ltK rfl) (ltK rfl) rfl ?_
            refine vg_iconst (pc := 101) (dK D_Reader_readStory_1 5 rfl) ?_
            refine vg_iaload (pc := 102) (j := 3) (dK D_Reader_readStory_1 6 rfl) (hw_5_2 hc0) rfl ⟨by decide, by decide⟩ rfl ?_
            refine bnE h (fun p9 e_p9 h => ?_)
            refine vg_cV (pc := 103) (As := [V (g p7.2 (tgt c0 2) 0), V (g p7.2 (tgt c0 2) 1), V (g p7.2 (tgt c0 2) 2), V (g p7.2 (tgt c0 2) 3)]) (rest := []) (mc' := 0) (ms' := 0) (dK D_Reader_readStory_1 7 rfl) K_Reader_153 (fitK rfl) (ltK rfl) (hw_8_1 (hw_4_0 (hw_5_1 hc0))) rfl (leK rfl) (leK rfl) (leK rfl) (tf_Stories_add (hw_8_1 (hw_4_0 (hw_5_1 hc0))) (g_in _ _ _) (g_in _ _ _) (g_in _ _ _) (g_in _ _ _) e_p9) (kcU ?_)
            refine g_aloadn (pc := 106) (i0 := 0) (j := 0) (dK D_Reader_readStory_1 8 rfl) rfl rfl ?_
            refine bnE h (fun p10 e_p10 h => ?_)
            refine vg_cV (pc := 107) (As := []) (rest := []) (mc' := 0) (ms' := 0) (dK D_Reader_readStory_1 9 rfl) K_Reader_72 (fitK rfl) (ltK rfl) hc0 rfl (leK rfl) (leK rfl) (leK rfl) (tf_Reader_readSemicolon hc0 e_p10) (kcB ?_)
            exact vg_iretB (pc := 110) (b := p10.1) (dK D_Reader_readStory_1 10 rfl) rfl (leK rfl) (leK rfl) (fun _ => rfl) (by obtain rfl := Option.some.inj h; exact ⟨rfl, rfl⟩)
          · replace h := ifN h hc8
            refine vg_iconst (pc := 67) (dK D_Reader_readStory_0 35 rfl) ?_
            exact vg_iretB (pc := 68) (b := false) (dK D_Reader_readStory_0 36 rfl) rfl (leK rfl) (leK rfl) (fun _ => rfl) (by obtain rfl := Option.some.inj h; exact ⟨rfl, rfl⟩)
        · replace h := ifN h hc6
          refine vg_iconst (pc := 67) (dK D_Reader_readStory_0 35 rfl) ?_
          exact vg_iretB (pc := 68) (b := false) (dK D_Reader_readStory_0 36 rfl) rfl (leK rfl) (leK rfl) (fun _ => rfl) (by obtain rfl := Option.some.inj h; exact ⟨rfl, rfl⟩)
      · replace h := ifN h hc4
        refine vg_iconst (pc := 67) (dK D_Reader_readStory_0 35 rfl) ?_
        exact vg_iretB (pc := 68) (b := false) (dK D_Reader_readStory_0 36 rfl) rfl (leK rfl) (leK rfl) (fun _ => rfl) (by obtain rfl := Option.some.inj h; exact ⟨rfl, rfl⟩)
    · replace h := ifN h hc2
      refine vg_iconst (pc := 67) (dK D_Reader_readStory_0 35 rfl) ?_
      exact vg_iretB (pc := 68) (b := false) (dK D_Reader_readStory_0 36 rfl) rfl (leK rfl) (leK rfl) (fun _ => rfl) (by obtain rfl := Option.some.inj h; exact ⟨rfl, rfl⟩)
  · replace h := ifN h hc12
    refine g_aloadn (pc := 18) (i0 := 0) (j := 0) (dK D_Reader_readStory_0 7 rfl) rfl rfl ?_
    refine vg_iconst (pc := 19) (dK D_Reader_readStory_0 8 rfl) ?_
    refine bnE h (fun p11 e_p11 h => ?_)
    refine vg_cV (pc := 20) (As := [V 3]) (rest := []) (mc' := 0) (ms' := 0) (dK D_Reader_readStory_0 9 rfl) K_Reader_68 (fitK rfl) (ltK rfl) hc0 rfl (leK rfl) (leK rfl) (leK rfl) (tf_Reader_fail hc0 (inRk rfl) e_p11) (kcB ?_)
    exact vg_iretB (pc := 23) (b := p11.1) (dK D_Reader_readStory_0 10 rfl) rfl (leK rfl) (leK rfl) (fun _ => rfl) (by obtain rfl := Option.some.inj h; exact ⟨rfl, rfl⟩)
def fn_Standbys_add (c0 : Nat) (a1 : Int) (S : St) : Option (St) := if 8 ≤ (g S c0 2) then (some S) else (if 0 ≤ (g S c0 2) ∧ (g S c0 2) < 8 then (nm (u S (tgt c0 0) (((g S c0 2)).toNat) a1) fun S2 => if 0 ≤ (g S2 c0 2) ∧ (g S2 c0 2) < 8 then (nm (u S2 (tgt c0 1) (((g S2 c0 2)).toNat) 0) fun S4 => nm (u S4 c0 2 ((g S4 c0 2) + 1)) fun S5 => some S5) else none) else none)
theorem tf_Standbys_add {E : EV} {X : XT} {c0 : Nat} (hc0 : HC X 7 c0) {a1 : Int} (ha1 : inR a1) {S : St} {q : St} (h : fn_Standbys_add c0 a1 S = some q) : Ev E M_Standbys_add [.ref c0, V a1] (WX X S) 0 0 (KU X q) := by
  refine Ev.of pn_Standbys rfl (leK rfl) ?_
  show Go E M_Standbys_add 0 0 0 [(0, .ref c0), (1, V a1)] [] (WX X S) 0 0 (KU X q)
  unfold fn_Standbys_add at h
  refine g_aloadn (pc := 0) (i0 := 0) (j := 0) (dK D_Standbys_add 0 rfl) rfl rfl ?_
  refine vg_getI (pc := 1) (ci := 7) (f := 2) (dK D_Standbys_add 1 rfl) q_194 hc0 (ltK rfl) (ltK rfl) rfl ?_
  refine vg_bipush (pc := 4) (dK D_Standbys_add 2 rfl) rfl ?_
  refine vg_icmp_ge (pc := 6) (t := 39) (dK D_Standbys_add 3 rfl) rfl (g_in _ _ _) (inRk rfl) (fun hc6 => ?_) (fun hc6 => ?_)
  · replace h := ifP h hc6
    exact g_return (pc := 39) (dK D_Standbys_add 22 rfl) rfl (leK rfl) (leK rfl) (fun _ => rfl) (by obtain rfl := Option.some.inj h; exact ⟨rfl, rfl⟩)
  · replace h := ifN h hc6
    refine g_aloadn (pc := 9) (i0 := 0) (j := 0) (dK D_Standbys_add 4 rfl) rfl rfl ?_
    refine vg_getA (pc := 10) (ci := 7) (f := 0) (dK D_Standbys_add 5 rfl) q_188 hc0 (ltK rfl) (ltK rfl) rfl ?_
    refine g_aloadn (pc := 13) (i0 := 0) (j := 0) (dK D_Standbys_add 6 rfl) rfl rfl ?_
    refine vg_getI (pc := 14) (ci := 7) (f := 2) (dK D_Standbys_add 7 rfl) q_194 hc0 (ltK rfl) (ltK rfl) rfl ?_
    refine g_iloadn (pc := 17) (i0 := 1) (j := 1) (dK D_Standbys_add 8 rfl) rfl rfl ?_
    refine gdE h (fun hi1 h => ?_)
    refine nmE h (fun S2 e_S2 h => ?_)
    refine vg_iastore (pc := 18) (z := a1) (dK D_Standbys_add 9 rfl) (hw_7_0 hc0) rfl hi1 rfl e_S2 ?_
    refine g_aloadn (pc := 19) (i0 := 0) (j := 0) (dK D_Standbys_add 10 rfl) rfl rfl ?_
    refine vg_getA (pc := 20) (ci := 7) (f := 1) (dK D_Standbys_add 11 rfl) q_191 hc0 (ltK rfl) (ltK rfl) rfl ?_
    refine g_aloadn (pc := 23) (i0 := 0) (j := 0) (dK D_Standbys_add 12 rfl) rfl rfl ?_
    refine vg_getI (pc := 24) (ci := 7) (f := 2) (dK D_Standbys_add 13 rfl) q_194 hc0 (ltK rfl) (ltK rfl) rfl ?_
    refine vg_iconst (pc := 27) (dK D_Standbys_add 14 rfl) ?_
    refine gdE h (fun hi3 h => ?_)
    refine nmE h (fun S4 e_S4 h => ?_)
    refine vg_iastore (pc := 28) (z := 0) (dK D_Standbys_add 15 rfl) (hw_7_1 hc0) rfl hi3 rfl e_S4 ?_
    refine g_aloadn (pc := 29) (i0 := 0) (j := 0) (dK D_Standbys_add 16 rfl) rfl rfl ?_
    refine g_dup (pc := 30) (dK D_Standbys_add 17 rfl) rfl ?_
    refine vg_getI (pc := 31) (ci := 7) (f := 2) (dK D_Standbys_add 18 rfl) q_194 hc0 (ltK rfl) (ltK rfl) rfl ?_
    refine vg_iconst (pc := 34) (dK D_Standbys_add 19 rfl) ?_
    refine vg_iadd (pc := 35) (dK D_Standbys_add 20 rfl) ?_
    refine nmE h (fun S5 e_S5 h => ?_)
    refine vg_putI (pc := 36) (ci := 7) (f := 2) (z := ((g S4 c0 2) + 1)) (dK D_Standbys_add 21 rfl) q_194 hc0 (ltK rfl) (ltK rfl) rfl rfl e_S5 ?_
    exact g_return (pc := 39) (dK D_Standbys_add 22 rfl) rfl (leK rfl) (leK rfl) (fun _ => rfl) (by obtain rfl := Option.some.inj h; exact ⟨rfl, rfl⟩)
def fn_Reader_readStandby (c0 : Nat) (S : St) : Option (Bool × St) := if (g S (tgt (tgt (tgt c0 1) 0) 2) 2) < 8 then (bnO (fn_Reader_readNumber c0 0 1 4 S) fun p1 => if p1.1 = true then (bnO (fn_Reader_firstIsSize c0 p1.2) fun p3 => if p3.1 = true then (bnO (fn_Standbys_add (tgt (tgt (tgt c0 1) 0) 2) (g p3.2 (tgt c0 2) 0) p3.2) fun p5 => bnO (fn_Reader_readSemicolon c0 p5) fun p6 => some (p6.1, p6.2)) else (some (false, p3.2))) else (some (false, p1.2))) else (bnO (fn_Reader_fail c0 3 S) fun p7 => some (p7.1, p7.2))
theorem tf_Reader_readStandby {E : EV} {X : XT} {c0 : Nat} (hc0 : HC X 5 c0) {S : St} {q : Bool × St} (h : fn_Reader_readStandby c0 S = some q) : Ev E M_Reader_readStandby [.ref c0] (WX X S) 0 0 (KB X q.1 q.2) := by
  refine Ev.of pn_Reader rfl (leK rfl) ?_
  show Go E M_Reader_readStandby 0 0 0 [(0, .ref c0)] [] (WX X S) 0 0 (KB X q.1 q.2)
  unfold fn_Reader_readStandby at h
  refine g_aloadn (pc := 0) (i0 := 0) (j := 0) (dK D_Reader_readStandby 0 rfl) rfl rfl ?_
  refine vg_getO (pc := 1) (ci := 5) (f := 1) (dK D_Reader_readStandby 1 rfl) q_344 hc0 (ltK rfl) (ltK rfl) rfl ?_
  refine vg_getO (pc := 4) (ci := 4) (f := 0) (dK D_Reader_readStandby 2 rfl) q_304 (hw_5_1 hc0) (ltK rfl) (ltK rfl) rfl ?_
  refine vg_getO (pc := 7) (ci := 8) (f := 2) (dK D_Reader_readStandby 3 rfl) q_244 (hw_4_0 (hw_5_1 hc0)) (ltK rfl) (ltK rfl) rfl ?_
  refine vg_getI (pc := 10) (ci := 7) (f := 2) (dK D_Reader_readStandby 4 rfl) q_197 (hw_8_2 (hw_4_0 (hw_5_1 hc0))) (ltK rfl) (ltK rfl) rfl ?_
  refine vg_bipush (pc := 13) (dK D_Reader_readStandby 5 rfl) rfl ?_
  refine vg_icmp_lt (pc := 15) (t := 24) (dK D_Reader_readStandby 6 rfl) rfl (g_in _ _ _) (inRk rfl) (fun hc8 => ?_) (fun hc8 => ?_)
  · replace h := ifP h hc8
    refine g_aloadn (pc := 24) (i0 := 0) (j := 0) (dK D_Reader_readStandby 11 rfl) rfl rfl ?_
    refine vg_iconst (pc := 25) (dK D_Reader_readStandby 12 rfl) ?_
    refine vg_iconst (pc := 26) (dK D_Reader_readStandby 13 rfl) ?_
    refine vg_iconst (pc := 27) (dK D_Reader_readStandby 14 rfl) ?_
    refine bnE h (fun p1 e_p1 h => ?_)
    refine vg_cV (pc := 28) (As := [V 0, V 1, V 4]) (rest := []) (mc' := 0) (ms' := 0) (dK D_Reader_readStandby 15 rfl) K_Reader_64 (fitK rfl) (ltK rfl) hc0 rfl (leK rfl) (leK rfl) (leK rfl) (tf_Reader_readNumber hc0 (inRk rfl) (inRk rfl) (inRk rfl) e_p1) (kcB ?_)
    refine vg_ifB_eq (pc := 31) (b := p1.1) (t := 41) (dK D_Reader_readStandby 16 rfl) rfl (fun hc2 => ?_) (fun hc2 => ?_)
    · replace h := ifP h hc2
      refine g_aloadn (pc := 34) (i0 := 0) (j := 0) (dK D_Reader_readStandby 17 rfl) rfl rfl ?_
      refine bnE h (fun p3 e_p3 h => ?_)
      refine vg_cV (pc := 35) (As := []) (rest := []) (mc' := 0) (ms' := 0) (dK D_Reader_readStandby 18 rfl) K_Reader_135 (fitK rfl) (ltK rfl) hc0 rfl (leK rfl) (leK rfl) (leK rfl) (tf_Reader_firstIsSize hc0 e_p3) (kcB ?_)
      refine vg_ifB_ne (pc := 38) (b := p3.1) (t := 43) (dK D_Reader_readStandby 19 rfl) rfl (fun hc4 => ?_) (fun hc4 => ?_)
      · replace h := ifP h hc4
        refine g_aloadn (pc := 43) (i0 := 0) (j := 0) (dK D_Reader_readStandby 22 rfl) rfl rfl ?_
        refine vg_getO (pc := 44) (ci := 5) (f := 1) (dK D_Reader_readStandby 23 rfl) q_344 hc0 (ltK rfl) (ltK rfl) rfl ?_
        refine vg_getO (pc := 47) (ci := 4) (f := 0) (dK D_Reader_readStandby 24 rfl) q_304 (hw_5_1 hc0) (ltK rfl) (ltK rfl) rfl ?_
        refine vg_getO (pc := 50) (ci := 8) (f := 2) (dK D_Reader_readStandby 25 rfl) q_244 (hw_4_0 (hw_5_1 hc0)) (ltK rfl) (ltK rfl) rfl ?_
        refine g_aloadn (pc := 53) (i0 := 0) (j := 0) (dK D_Reader_readStandby 26 rfl) rfl rfl ?_
        refine vg_getA (pc := 54) (ci := 5) (f := 2) (dK D_Reader_readStandby 27 rfl) q_346 hc0 (ltK rfl) (ltK rfl) rfl ?_
        refine vg_iconst (pc := 57) (dK D_Reader_readStandby 28 rfl) ?_
        refine vg_iaload (pc := 58) (j := 0) (dK D_Reader_readStandby 29 rfl) (hw_5_2 hc0) rfl ⟨by decide, by decide⟩ rfl ?_
        refine bnE h (fun p5 e_p5 h => ?_)
        refine vg_cV (pc := 59) (As := [V (g p3.2 (tgt c0 2) 0)]) (rest := []) (mc' := 0) (ms' := 0) (dK D_Reader_readStandby 30 rfl) K_Reader_163 (fitK rfl) (ltK rfl) (hw_8_2 (hw_4_0 (hw_5_1 hc0))) rfl (leK rfl) (leK rfl) (leK rfl) (tf_Standbys_add (hw_8_2 (hw_4_0 (hw_5_1 hc0))) (g_in _ _ _) e_p5) (kcU ?_)
        refine g_aloadn (pc := 62) (i0 := 0) (j := 0) (dK D_Reader_readStandby 31 rfl) rfl rfl ?_
        refine bnE h (fun p6 e_p6 h => ?_)
        refine vg_cV (pc := 63) (As := []) (rest := []) (mc' := 0) (ms' := 0) (dK D_Reader_readStandby 32 rfl) K_Reader_72 (fitK rfl) (ltK rfl) hc0 rfl (leK rfl) (leK rfl) (leK rfl) (tf_Reader_readSemicolon hc0 e_p6) (kcB ?_)
        exact vg_iretB (pc := 66) (b := p6.1) (dK D_Reader_readStandby 33 rfl) rfl (leK rfl) (leK rfl) (fun _ => rfl) (by obtain rfl := Option.some.inj h; exact ⟨rfl, rfl⟩)
      · replace h := ifN h hc4
        refine vg_iconst (pc := 41) (dK D_Reader_readStandby 20 rfl) ?_
        exact vg_iretB (pc := 42) (b := false) (dK D_Reader_readStandby 21 rfl) rfl (leK rfl) (leK rfl) (fun _ => rfl) (by obtain rfl := Option.some.inj h; exact ⟨rfl, rfl⟩)
    · replace h := ifN h hc2
      refine vg_iconst (pc := 41) (dK D_Reader_readStandby 20 rfl) ?_
      exact vg_iretB (pc := 42) (b := false) (dK D_Reader_readStandby 21 rfl) rfl (leK rfl) (leK rfl) (fun _ => rfl) (by obtain rfl := Option.some.inj h; exact ⟨rfl, rfl⟩)
  · replace h := ifN h hc8
    refine g_aloadn (pc := 18) (i0 := 0) (j := 0) (dK D_Reader_readStandby 7 rfl) rfl rfl ?_
    refine vg_iconst (pc := 19) (dK D_Reader_readStandby 8 rfl) ?_
    refine bnE h (fun p7 e_p7 h => ?_)
    refine vg_cV (pc := 20) (As := [V 3]) (rest := []) (mc' := 0) (ms' := 0) (dK D_Reader_readStandby 9 rfl) K_Reader_68 (fitK rfl) (ltK rfl) hc0 rfl (leK rfl) (leK rfl) (leK rfl) (tf_Reader_fail hc0 (inRk rfl) e_p7) (kcB ?_)
    exact vg_iretB (pc := 23) (b := p7.1) (dK D_Reader_readStandby 10 rfl) rfl (leK rfl) (leK rfl) (fun _ => rfl) (by obtain rfl := Option.some.inj h; exact ⟨rfl, rfl⟩)
def fn_Reader_readClose (c0 : Nat) (S : St) : Option (Bool × St) := nm (wr ((g S (tgt c0 1) 2) - 1)) fun v1 => bnO (fn_Reader_readNumber c0 0 0 v1 S) fun p2 => if p2.1 = true then (bnO (fn_Reader_readNumber c0 1 1 9999 p2.2) fun p4 => if p4.1 = true then (if 0 ≤ (g p4.2 (tgt c0 2) 0) ∧ (g p4.2 (tgt c0 2) 0) < 8 then (nm (u p4.2 (tgt (tgt (tgt (tgt c0 1) 0) 3) 2) (((g p4.2 (tgt c0 2) 0)).toNat) (g p4.2 (tgt c0 2) 1)) fun S7 => bnO (fn_Reader_readSemicolon c0 S7) fun p8 => some (p8.1, p8.2)) else none) else (some (false, p4.2))) else (some (false, p2.2))
theorem tf_Reader_readClose {E : EV} {X : XT} {c0 : Nat} (hc0 : HC X 5 c0) {S : St} {q : Bool × St} (h : fn_Reader_readClose c0 S = some q) : Ev E M_Reader_readClose [.ref c0] (WX X S) 0 0 (KB X q.1 q.2) := by
  refine Ev.of pn_Reader rfl (leK rfl) ?_
  show Go E M_Reader_readClose 0 0 0 [(0, .ref c0)] [] (WX X S) 0 0 (KB X q.1 q.2)
  unfold fn_Reader_readClose at h
  refine g_aloadn (pc := 0) (i0 := 0) (j := 0) (dK D_Reader_readClose 0 rfl) rfl rfl ?_
  refine vg_iconst (pc := 1) (dK D_Reader_readClose 1 rfl) ?_
  refine vg_iconst (pc := 2) (dK D_Reader_readClose 2 rfl) ?_
  refine g_aloadn (pc := 3) (i0 := 0) (j := 0) (dK D_Reader_readClose 3 rfl) rfl rfl ?_
  refine vg_getO (pc := 4) (ci := 5) (f := 1) (dK D_Reader_readClose 4 rfl) q_344 hc0 (ltK rfl) (ltK rfl) rfl ?_
  refine vg_getI (pc := 7) (ci := 4) (f := 2) (dK D_Reader_readClose 5 rfl) q_310 (hw_5_1 hc0) (ltK rfl) (ltK rfl) rfl ?_
  refine vg_iconst (pc := 10) (dK D_Reader_readClose 6 rfl) ?_
  refine vg_isub (pc := 11) (dK D_Reader_readClose 7 rfl) ?_
  refine nmE h (fun v1 e_v1 h => ?_)
  refine gtop e_v1 ?_
  refine bnE h (fun p2 e_p2 h => ?_)
  refine vg_cV (pc := 12) (As := [V 0, V 0, V v1]) (rest := []) (mc' := 0) (ms' := 0) (dK D_Reader_readClose 8 rfl) K_Reader_64 (fitK rfl) (ltK rfl) hc0 rfl (leK rfl) (leK rfl) (leK rfl) (tf_Reader_readNumber hc0 (inRk rfl) (inRk rfl) (Vn_in e_v1) e_p2) (kcB ?_)
  refine vg_ifB_eq (pc := 15) (b := p2.1) (t := 30) (dK D_Reader_readClose 9 rfl) rfl (fun hc3 => ?_) (fun hc3 => ?_)
  · replace h := ifP h hc3
    refine g_aloadn (pc := 18) (i0 := 0) (j := 0) (dK D_Reader_readClose 10 rfl) rfl rfl ?_
    refine vg_iconst (pc := 19) (dK D_Reader_readClose 11 rfl) ?_
    refine vg_iconst (pc := 20) (dK D_Reader_readClose 12 rfl) ?_
    refine vg_sipush (pc := 21) (dK D_Reader_readClose 13 rfl) rfl ?_
    refine bnE h (fun p4 e_p4 h => ?_)
    refine vg_cV (pc := 24) (As := [V 1, V 1, V 9999]) (rest := []) (mc' := 0) (ms' := 0) (dK D_Reader_readClose 14 rfl) K_Reader_64 (fitK rfl) (ltK rfl) hc0 rfl (leK rfl) (leK rfl) (leK rfl) (tf_Reader_readNumber hc0 (inRk rfl) (inRk rfl) (inRk rfl) e_p4) (kcB ?_)
    refine vg_ifB_ne (pc := 27) (b := p4.1) (t := 32) (dK D_Reader_readClose 15 rfl) rfl (fun hc5 => ?_) (fun hc5 => ?_)
    · replace h := ifP h hc5
      refine g_aloadn (pc := 32) (i0 := 0) (j := 0) (dK D_Reader_readClose 18 rfl) rfl rfl ?_
      refine vg_getO (pc := 33) (ci := 5) (f := 1) (dK D_Reader_readClose 19 rfl) q_344 hc0 (ltK rfl) (ltK rfl) rfl ?_
      refine vg_getO (pc := 36) (ci := 4) (f := 0) (dK D_Reader_readClose 20 rfl) q_304 (hw_5_1 hc0) (ltK rfl) (ltK rfl) rfl ?_
      refine vg_getO (pc := 39) (ci := 8) (f := 3) (dK D_Reader_readClose 21 rfl) q_247 (hw_4_0 (hw_5_1 hc0)) (ltK rfl) (ltK rfl) rfl ?_
      refine vg_getA (pc := 42) (ci := 2) (f := 2) (dK D_Reader_readClose 22 rfl) q_222 (hw_8_3 (hw_4_0 (hw_5_1 hc0))) (ltK rfl) (ltK rfl) rfl ?_
      refine g_aloadn (pc := 45) (i0 := 0) (j := 0) (dK D_Reader_readClose 23 rfl) rfl rfl ?_
      refine vg_getA (pc := 46) (ci := 5) (f := 2) (dK D_Reader_readClose 24 rfl) q_346 hc0 (ltK rfl) (ltK rfl) rfl ?_
      refine vg_iconst (pc := 49) (dK D_Reader_readClose 25 rfl) ?_
      refine vg_iaload (pc := 50) (j := 0) (dK D_Reader_readClose 26 rfl) (hw_5_2 hc0) rfl ⟨by decide, by decide⟩ rfl ?_
      refine g_aloadn (pc := 51) (i0 := 0) (j := 0) (dK D_Reader_readClose 27 rfl) rfl rfl ?_
      refine vg_getA (pc := 52) (ci := 5) (f := 2) (dK D_Reader_readClose 28 rfl) q_346 hc0 (ltK rfl) (ltK rfl) rfl ?_
      refine vg_iconst (pc := 55) (dK D_Reader_readClose 29 rfl) ?_
      refine vg_iaload (pc := 56) (j := 1) (dK D_Reader_readClose 30 rfl) (hw_5_2 hc0) rfl ⟨by decide, by decide⟩ rfl ?_
      refine gdE h (fun hi6 h => ?_)
      refine nmE h (fun S7 e_S7 h => ?_)
      refine vg_iastore (pc := 57) (z := (g p4.2 (tgt c0 2) 1)) (dK D_Reader_readClose 31 rfl) (hw_2_2 (hw_8_3 (hw_4_0 (hw_5_1 hc0)))) rfl hi6 rfl e_S7 ?_
      refine g_aloadn (pc := 58) (i0 := 0) (j := 0) (dK D_Reader_readClose 32 rfl) rfl rfl ?_
      refine bnE h (fun p8 e_p8 h => ?_)
      refine vg_cV (pc := 59) (As := []) (rest := []) (mc' := 0) (ms' := 0) (dK D_Reader_readClose 33 rfl) K_Reader_72 (fitK rfl) (ltK rfl) hc0 rfl (leK rfl) (leK rfl) (leK rfl) (tf_Reader_readSemicolon hc0 e_p8) (kcB ?_)
      exact vg_iretB (pc := 62) (b := p8.1) (dK D_Reader_readClose 34 rfl) rfl (leK rfl) (leK rfl) (fun _ => rfl) (by obtain rfl := Option.some.inj h; exact ⟨rfl, rfl⟩)
    · replace h := ifN h hc5
      refine vg_iconst (pc := 30) (dK D_Reader_readClose 16 rfl) ?_
      exact vg_iretB (pc := 31) (b := false) (dK D_Reader_readClose 17 rfl) rfl (leK rfl) (leK rfl) (fun _ => rfl) (by obtain rfl := Option.some.inj h; exact ⟨rfl, rfl⟩)
  · replace h := ifN h hc3
    refine vg_iconst (pc := 30) (dK D_Reader_readClose 16 rfl) ?_
    exact vg_iretB (pc := 31) (b := false) (dK D_Reader_readClose 17 rfl) rfl (leK rfl) (leK rfl) (fun _ => rfl) (by obtain rfl := Option.some.inj h; exact ⟨rfl, rfl⟩)
def fn_Plan_isPrinted (c0 : Nat) (a1 : Int) (S : St) : Option (Bool) := if a1 < 1 then (some false) else (if (g S c0 1) < a1 then (some false) else (if 0 ≤ a1 ∧ a1 < 65 then (if 0 ≤ (g S (tgt c0 3) a1.toNat) ∧ (g S (tgt c0 3) a1.toNat) < 8 then (if (g S (tgt (tgt (tgt c0 0) 3) 1) (((g S (tgt c0 3) a1.toNat)).toNat)) = 1 then (some true) else (some false)) else none) else none))
theorem tf_Plan_isPrinted {E : EV} {X : XT} {c0 : Nat} (hc0 : HC X 4 c0) {a1 : Int} (ha1 : inR a1) {S : St} {q : Bool} (h : fn_Plan_isPrinted c0 a1 S = some q) : Ev E M_Plan_isPrinted [.ref c0, V a1] (WX X S) 0 0 (KB X q S) := by
  refine Ev.of pn_Plan rfl (leK rfl) ?_
  show Go E M_Plan_isPrinted 0 0 0 [(0, .ref c0), (1, V a1)] [] (WX X S) 0 0 (KB X q S)
  unfold fn_Plan_isPrinted at h
  refine g_iloadn (pc := 0) (i0 := 1) (j := 1) (dK D_Plan_isPrinted 0 rfl) rfl rfl ?_
  refine vg_iconst (pc := 1) (dK D_Plan_isPrinted 1 rfl) ?_
  refine vg_icmp_lt (pc := 2) (t := 38) (dK D_Plan_isPrinted 2 rfl) rfl ha1 (inRk rfl) (fun hc5 => ?_) (fun hc5 => ?_)
  · replace h := ifP h hc5
    refine vg_iconst (pc := 38) (dK D_Plan_isPrinted 20 rfl) ?_
    exact vg_iretB (pc := 39) (b := false) (dK D_Plan_isPrinted 21 rfl) rfl (leK rfl) (leK rfl) (fun _ => rfl) (by obtain rfl := Option.some.inj h; exact ⟨rfl, rfl⟩)
  · replace h := ifN h hc5
    refine g_iloadn (pc := 5) (i0 := 1) (j := 1) (dK D_Plan_isPrinted 3 rfl) rfl rfl ?_
    refine g_aloadn (pc := 6) (i0 := 0) (j := 0) (dK D_Plan_isPrinted 4 rfl) rfl rfl ?_
    refine vg_getI (pc := 7) (ci := 4) (f := 1) (dK D_Plan_isPrinted 5 rfl) q_305 hc0 (ltK rfl) (ltK rfl) rfl ?_
    refine vg_icmp_gt (pc := 10) (t := 38) (dK D_Plan_isPrinted 6 rfl) rfl ha1 (g_in _ _ _) (fun hc4 => ?_) (fun hc4 => ?_)
    · replace h := ifP h hc4
      refine vg_iconst (pc := 38) (dK D_Plan_isPrinted 20 rfl) ?_
      exact vg_iretB (pc := 39) (b := false) (dK D_Plan_isPrinted 21 rfl) rfl (leK rfl) (leK rfl) (fun _ => rfl) (by obtain rfl := Option.some.inj h; exact ⟨rfl, rfl⟩)
    · replace h := ifN h hc4
      refine g_aloadn (pc := 13) (i0 := 0) (j := 0) (dK D_Plan_isPrinted 7 rfl) rfl rfl ?_
      refine vg_getO (pc := 14) (ci := 4) (f := 0) (dK D_Plan_isPrinted 8 rfl) q_301 hc0 (ltK rfl) (ltK rfl) rfl ?_
      refine vg_getO (pc := 17) (ci := 8) (f := 3) (dK D_Plan_isPrinted 9 rfl) q_246 (hw_4_0 hc0) (ltK rfl) (ltK rfl) rfl ?_
      refine vg_getA (pc := 20) (ci := 2) (f := 1) (dK D_Plan_isPrinted 10 rfl) q_217 (hw_8_3 (hw_4_0 hc0)) (ltK rfl) (ltK rfl) rfl ?_
      refine g_aloadn (pc := 23) (i0 := 0) (j := 0) (dK D_Plan_isPrinted 11 rfl) rfl rfl ?_
      refine vg_getA (pc := 24) (ci := 4) (f := 3) (dK D_Plan_isPrinted 12 rfl) q_313 hc0 (ltK rfl) (ltK rfl) rfl ?_
      refine g_iloadn (pc := 27) (i0 := 1) (j := 1) (dK D_Plan_isPrinted 13 rfl) rfl rfl ?_
      refine gdE h (fun hi1 h => ?_)
      refine vg_iaload (pc := 28) (j := a1.toNat) (dK D_Plan_isPrinted 14 rfl) (hw_4_3 hc0) rfl hi1 rfl ?_
      refine gdE h (fun hi2 h => ?_)
      refine vg_iaload (pc := 29) (j := ((g S (tgt c0 3) a1.toNat)).toNat) (dK D_Plan_isPrinted 15 rfl) (hw_2_1 (hw_8_3 (hw_4_0 hc0))) rfl hi2 rfl ?_
      refine vg_iconst (pc := 30) (dK D_Plan_isPrinted 16 rfl) ?_
      refine vg_icmp_ne (pc := 31) (t := 38) (dK D_Plan_isPrinted 17 rfl) rfl (g_in _ _ _) (inRk rfl) (fun hc3 => ?_) (fun hc3 => ?_)
      · replace h := ifN h hc3
        refine vg_iconst (pc := 38) (dK D_Plan_isPrinted 20 rfl) ?_
        exact vg_iretB (pc := 39) (b := false) (dK D_Plan_isPrinted 21 rfl) rfl (leK rfl) (leK rfl) (fun _ => rfl) (by obtain rfl := Option.some.inj h; exact ⟨rfl, rfl⟩)
      · replace h := ifP h hc3
        refine vg_iconst (pc := 34) (dK D_Plan_isPrinted 18 rfl) ?_
        refine g_goto (pc := 35) (tgt := 39) (dK D_Plan_isPrinted 19 rfl) rfl ?_
        exact vg_iretB (pc := 39) (b := true) (dK D_Plan_isPrinted 21 rfl) rfl (leK rfl) (leK rfl) (fun _ => rfl) (by obtain rfl := Option.some.inj h; exact ⟨rfl, rfl⟩)
def fn_Plan_roomFor (c0 : Nat) (a1 : Int) (a2 : Int) (S : St) : Option (Int) := if 0 ≤ a2 ∧ a2 < 65 then (if 0 ≤ a1 ∧ a1 < 40 then (if (g S (tgt (tgt (tgt c0 0) 0) 6) a1.toNat) = a2 then (some (wr ((g S (tgt c0 5) a2.toNat) + (g S (tgt (tgt (tgt c0 0) 0) 0) a1.toNat)))) else (some (wr ((g S (tgt c0 5) a2.toNat) + 0)))) else none) else none
theorem tf_Plan_roomFor {E : EV} {X : XT} {c0 : Nat} (hc0 : HC X 4 c0) {a1 : Int} (ha1 : inR a1) {a2 : Int} (ha2 : inR a2) {S : St} {q : Int} (h : fn_Plan_roomFor c0 a1 a2 S = some q) : Ev E M_Plan_roomFor [.ref c0, V a1, V a2] (WX X S) 0 0 (KI X q S) := by
  refine Ev.of pn_Plan rfl (leK rfl) ?_
  show Go E M_Plan_roomFor 0 0 0 [(0, .ref c0), (1, V a1), (2, V a2)] [] (WX X S) 0 0 (KI X q S)
  unfold fn_Plan_roomFor at h
  refine g_aloadn (pc := 0) (i0 := 0) (j := 0) (dK D_Plan_roomFor 0 rfl) rfl rfl ?_
  refine vg_getA (pc := 1) (ci := 4) (f := 5) (dK D_Plan_roomFor 1 rfl) q_318 hc0 (ltK rfl) (ltK rfl) rfl ?_
  refine g_iloadn (pc := 4) (i0 := 2) (j := 2) (dK D_Plan_roomFor 2 rfl) rfl rfl ?_
  refine gdE h (fun hi1 h => ?_)
  refine vg_iaload (pc := 5) (j := a2.toNat) (dK D_Plan_roomFor 3 rfl) (hw_4_5 hc0) rfl hi1 rfl ?_
  refine g_aloadn (pc := 6) (i0 := 0) (j := 0) (dK D_Plan_roomFor 4 rfl) rfl rfl ?_
  refine vg_getO (pc := 7) (ci := 4) (f := 0) (dK D_Plan_roomFor 5 rfl) q_301 hc0 (ltK rfl) (ltK rfl) rfl ?_
  refine vg_getO (pc := 10) (ci := 8) (f := 0) (dK D_Plan_roomFor 6 rfl) q_233 (hw_4_0 hc0) (ltK rfl) (ltK rfl) rfl ?_
  refine vg_getA (pc := 13) (ci := 0) (f := 6) (dK D_Plan_roomFor 7 rfl) q_113 (hw_8_0 (hw_4_0 hc0)) (ltK rfl) (ltK rfl) rfl ?_
  refine g_iloadn (pc := 16) (i0 := 1) (j := 1) (dK D_Plan_roomFor 8 rfl) rfl rfl ?_
  refine gdE h (fun hi2 h => ?_)
  refine vg_iaload (pc := 17) (j := a1.toNat) (dK D_Plan_roomFor 9 rfl) (hw_0_6 (hw_8_0 (hw_4_0 hc0))) rfl hi2 rfl ?_
  refine g_iloadn (pc := 18) (i0 := 2) (j := 2) (dK D_Plan_roomFor 10 rfl) rfl rfl ?_
  refine vg_icmp_ne (pc := 19) (t := 37) (dK D_Plan_roomFor 11 rfl) rfl (g_in _ _ _) ha2 (fun hc3 => ?_) (fun hc3 => ?_)
  · replace h := ifN h hc3
    refine vg_iconst (pc := 37) (dK D_Plan_roomFor 19 rfl) ?_
    refine vg_iadd (pc := 38) (dK D_Plan_roomFor 20 rfl) ?_
    refine gtop (x := (wr ((g S (tgt c0 5) a2.toNat) + 0))) rfl ?_
    exact vg_iretI (pc := 39) (r := (wr ((g S (tgt c0 5) a2.toNat) + 0))) (dK D_Plan_roomFor 21 rfl) rfl (leK rfl) (leK rfl) (fun _ => rfl) (by obtain rfl := Option.some.inj h; exact ⟨rfl, (wr_in _), rfl⟩)
  · replace h := ifP h hc3
    refine g_aloadn (pc := 22) (i0 := 0) (j := 0) (dK D_Plan_roomFor 12 rfl) rfl rfl ?_
    refine vg_getO (pc := 23) (ci := 4) (f := 0) (dK D_Plan_roomFor 13 rfl) q_301 hc0 (ltK rfl) (ltK rfl) rfl ?_
    refine vg_getO (pc := 26) (ci := 8) (f := 0) (dK D_Plan_roomFor 14 rfl) q_233 (hw_4_0 hc0) (ltK rfl) (ltK rfl) rfl ?_
    refine vg_getA (pc := 29) (ci := 0) (f := 0) (dK D_Plan_roomFor 15 rfl) q_89 (hw_8_0 (hw_4_0 hc0)) (ltK rfl) (ltK rfl) rfl ?_
    refine g_iloadn (pc := 32) (i0 := 1) (j := 1) (dK D_Plan_roomFor 16 rfl) rfl rfl ?_
    refine vg_iaload (pc := 33) (j := a1.toNat) (dK D_Plan_roomFor 17 rfl) (hw_0_0 (hw_8_0 (hw_4_0 hc0))) rfl hi2 rfl ?_
    refine g_goto (pc := 34) (tgt := 38) (dK D_Plan_roomFor 18 rfl) rfl ?_
    refine vg_iadd (pc := 38) (dK D_Plan_roomFor 20 rfl) ?_
    refine gtop (x := (wr ((g S (tgt c0 5) a2.toNat) + (g S (tgt (tgt (tgt c0 0) 0) 0) a1.toNat)))) rfl ?_
    exact vg_iretI (pc := 39) (r := (wr ((g S (tgt c0 5) a2.toNat) + (g S (tgt (tgt (tgt c0 0) 0) 0) a1.toNat)))) (dK D_Plan_roomFor 21 rfl) rfl (leK rfl) (leK rfl) (fun _ => rfl) (by obtain rfl := Option.some.inj h; exact ⟨rfl, (wr_in _), rfl⟩)
def fn_Plan_lacksColor (c0 : Nat) (a1 : Int) (a2 : Int) (S : St) : Option (Bool) := if a1 = 1 then (if a2 < 1 then (some false) else (if (g S c0 1) < a2 then (some false) else (if 0 ≤ a2 ∧ a2 < 65 then (if 0 ≤ (g S (tgt c0 3) a2.toNat) ∧ (g S (tgt c0 3) a2.toNat) < 8 then (if (g S (tgt (tgt (tgt c0 0) 3) 0) (((g S (tgt c0 3) a2.toNat)).toNat)) = 0 then (some true) else (some false)) else none) else none))) else (some false)
theorem tf_Plan_lacksColor {E : EV} {X : XT} {c0 : Nat} (hc0 : HC X 4 c0) {a1 : Int} (ha1 : inR a1) {a2 : Int} (ha2 : inR a2) {S : St} {q : Bool} (h : fn_Plan_lacksColor c0 a1 a2 S = some q) : Ev E M_Plan_lacksColor [.ref c0, V a1, V a2] (WX X S) 0 0 (KB X q S) := by
  refine Ev.of pn_Plan rfl (leK rfl) ?_
  show Go E M_Plan_lacksColor 0 0 0 [(0, .ref c0), (1, V a1), (2, V a2)] [] (WX X S) 0 0 (KB X q S)
  unfold fn_Plan_lacksColor at h
  refine g_iloadn (pc := 0) (i0 := 1) (j := 1) (dK D_Plan_lacksColor 0 rfl) rfl rfl ?_
  refine vg_iconst (pc := 1) (dK D_Plan_lacksColor 1 rfl) ?_
  refine vg_icmp_ne (pc := 2) (t := 42) (dK D_Plan_lacksColor 2 rfl) rfl ha1 (inRk rfl) (fun hc6 => ?_) (fun hc6 => ?_)
  · replace h := ifN h hc6
    refine vg_iconst (pc := 42) (dK D_Plan_lacksColor 22 rfl) ?_
    exact vg_iretB (pc := 43) (b := false) (dK D_Plan_lacksColor 23 rfl) rfl (leK rfl) (leK rfl) (fun _ => rfl) (by obtain rfl := Option.some.inj h; exact ⟨rfl, rfl⟩)
  · replace h := ifP h hc6
    refine g_iloadn (pc := 5) (i0 := 2) (j := 2) (dK D_Plan_lacksColor 3 rfl) rfl rfl ?_
    refine vg_iconst (pc := 6) (dK D_Plan_lacksColor 4 rfl) ?_
    refine vg_icmp_lt (pc := 7) (t := 42) (dK D_Plan_lacksColor 5 rfl) rfl ha2 (inRk rfl) (fun hc5 => ?_) (fun hc5 => ?_)
    · replace h := ifP h hc5
      refine vg_iconst (pc := 42) (dK D_Plan_lacksColor 22 rfl) ?_
      exact vg_iretB (pc := 43) (b := false) (dK D_Plan_lacksColor 23 rfl) rfl (leK rfl) (leK rfl) (fun _ => rfl) (by obtain rfl := Option.some.inj h; exact ⟨rfl, rfl⟩)
    · replace h := ifN h hc5
      refine g_iloadn (pc := 10) (i0 := 2) (j := 2) (dK D_Plan_lacksColor 6 rfl) rfl rfl ?_
      refine g_aloadn (pc := 11) (i0 := 0) (j := 0) (dK D_Plan_lacksColor 7 rfl) rfl rfl ?_
      refine vg_getI (pc := 12) (ci := 4) (f := 1) (dK D_Plan_lacksColor 8 rfl) q_305 hc0 (ltK rfl) (ltK rfl) rfl ?_
      refine vg_icmp_gt (pc := 15) (t := 42) (dK D_Plan_lacksColor 9 rfl) rfl ha2 (g_in _ _ _) (fun hc4 => ?_) (fun hc4 => ?_)
      · replace h := ifP h hc4
        refine vg_iconst (pc := 42) (dK D_Plan_lacksColor 22 rfl) ?_
        exact vg_iretB (pc := 43) (b := false) (dK D_Plan_lacksColor 23 rfl) rfl (leK rfl) (leK rfl) (fun _ => rfl) (by obtain rfl := Option.some.inj h; exact ⟨rfl, rfl⟩)
      · replace h := ifN h hc4
        refine g_aloadn (pc := 18) (i0 := 0) (j := 0) (dK D_Plan_lacksColor 10 rfl) rfl rfl ?_
        refine vg_getO (pc := 19) (ci := 4) (f := 0) (dK D_Plan_lacksColor 11 rfl) q_301 hc0 (ltK rfl) (ltK rfl) rfl ?_
        refine vg_getO (pc := 22) (ci := 8) (f := 3) (dK D_Plan_lacksColor 12 rfl) q_246 (hw_4_0 hc0) (ltK rfl) (ltK rfl) rfl ?_
        refine vg_getA (pc := 25) (ci := 2) (f := 0) (dK D_Plan_lacksColor 13 rfl) q_212 (hw_8_3 (hw_4_0 hc0)) (ltK rfl) (ltK rfl) rfl ?_
        refine g_aloadn (pc := 28) (i0 := 0) (j := 0) (dK D_Plan_lacksColor 14 rfl) rfl rfl ?_
        refine vg_getA (pc := 29) (ci := 4) (f := 3) (dK D_Plan_lacksColor 15 rfl) q_313 hc0 (ltK rfl) (ltK rfl) rfl ?_
        refine g_iloadn (pc := 32) (i0 := 2) (j := 2) (dK D_Plan_lacksColor 16 rfl) rfl rfl ?_
        refine gdE h (fun hi1 h => ?_)
        refine vg_iaload (pc := 33) (j := a2.toNat) (dK D_Plan_lacksColor 17 rfl) (hw_4_3 hc0) rfl hi1 rfl ?_
        refine gdE h (fun hi2 h => ?_)
        refine vg_iaload (pc := 34) (j := ((g S (tgt c0 3) a2.toNat)).toNat) (dK D_Plan_lacksColor 18 rfl) (hw_2_0 (hw_8_3 (hw_4_0 hc0))) rfl hi2 rfl ?_
        refine vg_if_ne (pc := 35) (t := 42) (dK D_Plan_lacksColor 19 rfl) rfl (g_in _ _ _) (fun hc3 => ?_) (fun hc3 => ?_)
        · replace h := ifN h hc3
          refine vg_iconst (pc := 42) (dK D_Plan_lacksColor 22 rfl) ?_
          exact vg_iretB (pc := 43) (b := false) (dK D_Plan_lacksColor 23 rfl) rfl (leK rfl) (leK rfl) (fun _ => rfl) (by obtain rfl := Option.some.inj h; exact ⟨rfl, rfl⟩)
        · replace h := ifP h hc3
          refine vg_iconst (pc := 38) (dK D_Plan_lacksColor 20 rfl) ?_
          refine g_goto (pc := 39) (tgt := 43) (dK D_Plan_lacksColor 21 rfl) rfl ?_
          exact vg_iretB (pc := 43) (b := true) (dK D_Plan_lacksColor 23 rfl) rfl (leK rfl) (leK rfl) (fun _ => rfl) (by obtain rfl := Option.some.inj h; exact ⟨rfl, rfl⟩)
def fn_Plan_isWrongSide (a0 : Int) (a1 : Int) (S : St) : Option (Bool) := if a0 = 1 then (nm (wr (a1.tmod 2)) fun v4 => if v4 = 0 then (if a0 = 2 then (nm (wr (a1.tmod 2)) fun v5 => if v5 = 0 then (some true) else (some false)) else (some false)) else (some true)) else (if a0 = 2 then (nm (wr (a1.tmod 2)) fun v1 => if v1 = 0 then (some true) else (some false)) else (some false))
theorem tf_Plan_isWrongSide {E : EV} {X : XT} {a0 : Int} (ha0 : inR a0) {a1 : Int} (ha1 : inR a1) {S : St} {q : Bool} (h : fn_Plan_isWrongSide a0 a1 S = some q) : Ev E M_Plan_isWrongSide [V a0, V a1] (WX X S) 0 0 (KB X q S) := by
  refine Ev.of pn_Plan rfl (leK rfl) ?_
  show Go E M_Plan_isWrongSide 0 0 0 [(0, V a0), (1, V a1)] [] (WX X S) 0 0 (KB X q S)
  unfold fn_Plan_isWrongSide at h
  refine g_iloadn (pc := 0) (i0 := 0) (j := 0) (dK D_Plan_isWrongSide 0 rfl) rfl rfl ?_
  refine vg_iconst (pc := 1) (dK D_Plan_isWrongSide 1 rfl) ?_
  refine vg_icmp_ne (pc := 2) (t := 11) (dK D_Plan_isWrongSide 2 rfl) rfl ha0 (inRk rfl) (fun hc9 => ?_) (fun hc9 => ?_)
  · replace h := ifN h hc9
    refine g_iloadn (pc := 11) (i0 := 0) (j := 0) (dK D_Plan_isWrongSide 7 rfl) rfl rfl ?_
    refine vg_iconst (pc := 12) (dK D_Plan_isWrongSide 8 rfl) ?_
    refine vg_icmp_ne (pc := 13) (t := 26) (dK D_Plan_isWrongSide 9 rfl) rfl ha0 (inRk rfl) (fun hc3 => ?_) (fun hc3 => ?_)
    · replace h := ifN h hc3
      refine vg_iconst (pc := 26) (dK D_Plan_isWrongSide 16 rfl) ?_
      exact vg_iretB (pc := 27) (b := false) (dK D_Plan_isWrongSide 17 rfl) rfl (leK rfl) (leK rfl) (fun _ => rfl) (by obtain rfl := Option.some.inj h; exact ⟨rfl, rfl⟩)
    · replace h := ifP h hc3
      refine g_iloadn (pc := 16) (i0 := 1) (j := 1) (dK D_Plan_isWrongSide 10 rfl) rfl rfl ?_
      refine vg_iconst (pc := 17) (dK D_Plan_isWrongSide 11 rfl) ?_
      refine vg_irem (pc := 18) (dK D_Plan_isWrongSide 12 rfl) ha1 (inRk rfl) (by decide) ?_
      refine nmE h (fun v1 e_v1 h => ?_)
      refine gtop e_v1 ?_
      refine vg_if_ne (pc := 19) (t := 26) (dK D_Plan_isWrongSide 13 rfl) rfl (Vn_in e_v1) (fun hc2 => ?_) (fun hc2 => ?_)
      · replace h := ifN h hc2
        refine vg_iconst (pc := 26) (dK D_Plan_isWrongSide 16 rfl) ?_
        exact vg_iretB (pc := 27) (b := false) (dK D_Plan_isWrongSide 17 rfl) rfl (leK rfl) (leK rfl) (fun _ => rfl) (by obtain rfl := Option.some.inj h; exact ⟨rfl, rfl⟩)
      · replace h := ifP h hc2
        refine vg_iconst (pc := 22) (dK D_Plan_isWrongSide 14 rfl) ?_
        refine g_goto (pc := 23) (tgt := 27) (dK D_Plan_isWrongSide 15 rfl) rfl ?_
        exact vg_iretB (pc := 27) (b := true) (dK D_Plan_isWrongSide 17 rfl) rfl (leK rfl) (leK rfl) (fun _ => rfl) (by obtain rfl := Option.some.inj h; exact ⟨rfl, rfl⟩)
  · replace h := ifP h hc9
    refine g_iloadn (pc := 5) (i0 := 1) (j := 1) (dK D_Plan_isWrongSide 3 rfl) rfl rfl ?_
    refine vg_iconst (pc := 6) (dK D_Plan_isWrongSide 4 rfl) ?_
    refine vg_irem (pc := 7) (dK D_Plan_isWrongSide 5 rfl) ha1 (inRk rfl) (by decide) ?_
    refine nmE h (fun v4 e_v4 h => ?_)
    refine gtop e_v4 ?_
    refine vg_if_ne (pc := 8) (t := 22) (dK D_Plan_isWrongSide 6 rfl) rfl (Vn_in e_v4) (fun hc8 => ?_) (fun hc8 => ?_)
    · replace h := ifN h hc8
      refine vg_iconst (pc := 22) (dK D_Plan_isWrongSide 14 rfl) ?_
      refine g_goto (pc := 23) (tgt := 27) (dK D_Plan_isWrongSide 15 rfl) rfl ?_
      exact vg_iretB (pc := 27) (b := true) (dK D_Plan_isWrongSide 17 rfl) rfl (leK rfl) (leK rfl) (fun _ => rfl) (by obtain rfl := Option.some.inj h; exact ⟨rfl, rfl⟩)
    · replace h := ifP h hc8
      refine g_iloadn (pc := 11) (i0 := 0) (j := 0) (dK D_Plan_isWrongSide 7 rfl) rfl rfl ?_
      refine vg_iconst (pc := 12) (dK D_Plan_isWrongSide 8 rfl) ?_
      refine vg_icmp_ne (pc := 13) (t := 26) (dK D_Plan_isWrongSide 9 rfl) rfl ha0 (inRk rfl) (fun hc7 => ?_) (fun hc7 => ?_)
      · replace h := ifN h hc7
        refine vg_iconst (pc := 26) (dK D_Plan_isWrongSide 16 rfl) ?_
        exact vg_iretB (pc := 27) (b := false) (dK D_Plan_isWrongSide 17 rfl) rfl (leK rfl) (leK rfl) (fun _ => rfl) (by obtain rfl := Option.some.inj h; exact ⟨rfl, rfl⟩)
      · replace h := ifP h hc7
        refine g_iloadn (pc := 16) (i0 := 1) (j := 1) (dK D_Plan_isWrongSide 10 rfl) rfl rfl ?_
        refine vg_iconst (pc := 17) (dK D_Plan_isWrongSide 11 rfl) ?_
        refine vg_irem (pc := 18) (dK D_Plan_isWrongSide 12 rfl) ha1 (inRk rfl) (by decide) ?_
        refine nmE h (fun v5 e_v5 h => ?_)
        refine gtop e_v5 ?_
        refine vg_if_ne (pc := 19) (t := 26) (dK D_Plan_isWrongSide 13 rfl) rfl (Vn_in e_v5) (fun hc6 => ?_) (fun hc6 => ?_)
        · replace h := ifN h hc6
          refine vg_iconst (pc := 26) (dK D_Plan_isWrongSide 16 rfl) ?_
          exact vg_iretB (pc := 27) (b := false) (dK D_Plan_isWrongSide 17 rfl) rfl (leK rfl) (leK rfl) (fun _ => rfl) (by obtain rfl := Option.some.inj h; exact ⟨rfl, rfl⟩)
        · replace h := ifP h hc6
          refine vg_iconst (pc := 22) (dK D_Plan_isWrongSide 14 rfl) ?_
          refine g_goto (pc := 23) (tgt := 27) (dK D_Plan_isWrongSide 15 rfl) rfl ?_
          exact vg_iretB (pc := 27) (b := true) (dK D_Plan_isWrongSide 17 rfl) rfl (leK rfl) (leK rfl) (fun _ => rfl) (by obtain rfl := Option.some.inj h; exact ⟨rfl, rfl⟩)
def fn_Plan_meetsRival (c0 : Nat) (a1 : Int) (a2 : Int) (S : St) : Option (Bool) := if 0 ≤ a1 ∧ a1 < 40 then (if (g S (tgt (tgt (tgt c0 0) 0) 6) a1.toNat) = 0 then (if (g S (tgt (tgt (tgt c0 0) 0) 1) a1.toNat) = 0 then (some false) else (if 0 ≤ (((g S (tgt (tgt (tgt c0 0) 0) 1) a1.toNat) * 33) + a2) ∧ (((g S (tgt (tgt (tgt c0 0) 0) 1) a1.toNat) * 33) + a2) < 330 then (if (g S (tgt c0 7) (((((g S (tgt (tgt (tgt c0 0) 0) 1) a1.toNat) * 33) + a2)).toNat)) ≤ 0 then (some false) else (some true)) else none)) else (nm (wr ((g S (tgt (tgt (tgt c0 0) 0) 6) a1.toNat).tdiv 2)) fun v5 => if v5 = a2 then (if (g S (tgt (tgt (tgt c0 0) 0) 1) a1.toNat) = 0 then (some false) else (if 0 ≤ (((g S (tgt (tgt (tgt c0 0) 0) 1) a1.toNat) * 33) + a2) ∧ (((g S (tgt (tgt (tgt c0 0) 0) 1) a1.toNat) * 33) + a2) < 330 then (if (g S (tgt c0 7) (((((g S (tgt (tgt (tgt c0 0) 0) 1) a1.toNat) * 33) + a2)).toNat)) ≤ 1 then (some false) else (some true)) else none)) else (if (g S (tgt (tgt (tgt c0 0) 0) 1) a1.toNat) = 0 then (some false) else (if 0 ≤ (((g S (tgt (tgt (tgt c0 0) 0) 1) a1.toNat) * 33) + a2) ∧ (((g S (tgt (tgt (tgt c0 0) 0) 1) a1.toNat) * 33) + a2) < 330 then (if (g S (tgt c0 7) (((((g S (tgt (tgt (tgt c0 0) 0) 1) a1.toNat) * 33) + a2)).toNat)) ≤ 0 then (some false) else (some true)) else none)))) else none
theorem tf_Plan_meetsRival {E : EV} {X : XT} {c0 : Nat} (hc0 : HC X 4 c0) {a1 : Int} (ha1 : inR a1) {a2 : Int} (ha2 : inR a2) {S : St} {q : Bool} (h : fn_Plan_meetsRival c0 a1 a2 S = some q) : Ev E M_Plan_meetsRival [.ref c0, V a1, V a2] (WX X S) 0 0 (KB X q S) := by
  refine Ev.of pn_Plan rfl (leK rfl) ?_
  show Go E M_Plan_meetsRival 0 0 0 [(0, .ref c0), (1, V a1), (2, V a2)] [] (WX X S) 0 0 (KB X q S)
  unfold fn_Plan_meetsRival at h
  refine g_aloadn (pc := 0) (i0 := 0) (j := 0) (dK D_Plan_meetsRival 0 rfl) rfl rfl ?_
  refine vg_getO (pc := 1) (ci := 4) (f := 0) (dK D_Plan_meetsRival 1 rfl) q_301 hc0 (ltK rfl) (ltK rfl) rfl ?_
  refine vg_getO (pc := 4) (ci := 8) (f := 0) (dK D_Plan_meetsRival 2 rfl) q_233 (hw_4_0 hc0) (ltK rfl) (ltK rfl) rfl ?_
  refine vg_getA (pc := 7) (ci := 0) (f := 1) (dK D_Plan_meetsRival 3 rfl) q_92 (hw_8_0 (hw_4_0 hc0)) (ltK rfl) (ltK rfl) rfl ?_
  refine g_iloadn (pc := 10) (i0 := 1) (j := 1) (dK D_Plan_meetsRival 4 rfl) rfl rfl ?_
  refine gdE h (fun hi1 h => ?_)
  refine vg_iaload (pc := 11) (j := a1.toNat) (dK D_Plan_meetsRival 5 rfl) (hw_0_1 (hw_8_0 (hw_4_0 hc0))) rfl hi1 rfl ?_
  refine g_istoren (pc := 12) (i0 := 3) (ls2 := [(3, V (g S (tgt (tgt (tgt c0 0) 0) 1) a1.toNat)), (0, .ref c0), (1, V a1), (2, V a2)]) (dK D_Plan_meetsRival 6 rfl) rfl (ltK rfl) rfl ?_
  refine g_aloadn (pc := 13) (i0 := 0) (j := 1) (dK D_Plan_meetsRival 7 rfl) rfl rfl ?_
  refine vg_getO (pc := 14) (ci := 4) (f := 0) (dK D_Plan_meetsRival 8 rfl) q_301 hc0 (ltK rfl) (ltK rfl) rfl ?_
  refine vg_getO (pc := 17) (ci := 8) (f := 0) (dK D_Plan_meetsRival 9 rfl) q_233 (hw_4_0 hc0) (ltK rfl) (ltK rfl) rfl ?_
  refine vg_getA (pc := 20) (ci := 0) (f := 6) (dK D_Plan_meetsRival 10 rfl) q_113 (hw_8_0 (hw_4_0 hc0)) (ltK rfl) (ltK rfl) rfl ?_
  refine g_iloadn (pc := 23) (i0 := 1) (j := 2) (dK D_Plan_meetsRival 11 rfl) rfl rfl ?_
  refine vg_iaload (pc := 24) (j := a1.toNat) (dK D_Plan_meetsRival 12 rfl) (hw_0_6 (hw_8_0 (hw_4_0 hc0))) rfl hi1 rfl ?_
  refine g_istore (pc := 25) (ls2 := [(4, V (g S (tgt (tgt (tgt c0 0) 0) 6) a1.toNat)), (3, V (g S (tgt (tgt (tgt c0 0) 0) 1) a1.toNat)), (0, .ref c0), (1, V a1), (2, V a2)]) (dK D_Plan_meetsRival 13 rfl) (ltK rfl) rfl ?_
  refine g_iload (pc := 27) (j := 0) (dK D_Plan_meetsRival 14 rfl) rfl ?_
  refine vg_if_eq (pc := 29) (t := 44) (dK D_Plan_meetsRival 15 rfl) rfl (g_in _ _ _) (fun hc13 => ?_) (fun hc13 => ?_)
  · replace h := ifP h hc13
    refine vg_iconst (pc := 44) (dK D_Plan_meetsRival 23 rfl) ?_
    refine g_istore (pc := 45) (ls2 := [(5, V 0), (4, V (g S (tgt (tgt (tgt c0 0) 0) 6) a1.toNat)), (3, V (g S (tgt (tgt (tgt c0 0) 0) 1) a1.toNat)), (0, .ref c0), (1, V a1), (2, V a2)]) (dK D_Plan_meetsRival 24 rfl) (ltK rfl) rfl ?_
    refine g_iloadn (pc := 47) (i0 := 3) (j := 2) (dK D_Plan_meetsRival 25 rfl) rfl rfl ?_
    refine vg_if_eq (pc := 48) (t := 71) (dK D_Plan_meetsRival 26 rfl) rfl (g_in _ _ _) (fun hc4 => ?_) (fun hc4 => ?_)
    · replace h := ifP h hc4
      refine vg_iconst (pc := 71) (dK D_Plan_meetsRival 39 rfl) ?_
      exact vg_iretB (pc := 72) (b := false) (dK D_Plan_meetsRival 40 rfl) rfl (leK rfl) (leK rfl) (fun _ => rfl) (by obtain rfl := Option.some.inj h; exact ⟨rfl, rfl⟩)
    · replace h := ifN h hc4
      refine g_aloadn (pc := 51) (i0 := 0) (j := 3) (dK D_Plan_meetsRival 27 rfl) rfl rfl ?_
      refine vg_getA (pc := 52) (ci := 4) (f := 7) (dK D_Plan_meetsRival 28 rfl) q_323 hc0 (ltK rfl) (ltK rfl) rfl ?_
      refine g_iloadn (pc := 55) (i0 := 3) (j := 2) (dK D_Plan_meetsRival 29 rfl) rfl rfl ?_
      refine vg_bipush (pc := 56) (dK D_Plan_meetsRival 30 rfl) rfl ?_
      refine vg_imul (pc := 58) (dK D_Plan_meetsRival 31 rfl) ?_
      refine g_iloadn (pc := 59) (i0 := 2) (j := 5) (dK D_Plan_meetsRival 32 rfl) rfl rfl ?_
      refine vg_iadd (pc := 60) (dK D_Plan_meetsRival 33 rfl) ?_
      refine gdE h (fun hi2 h => ?_)
      refine vg_iaload (pc := 61) (j := ((((g S (tgt (tgt (tgt c0 0) 0) 1) a1.toNat) * 33) + a2)).toNat) (dK D_Plan_meetsRival 34 rfl) (hw_4_7 hc0) rfl hi2 rfl ?_
      refine g_iload (pc := 62) (j := 0) (dK D_Plan_meetsRival 35 rfl) rfl ?_
      refine vg_icmp_le (pc := 64) (t := 71) (dK D_Plan_meetsRival 36 rfl) rfl (g_in _ _ _) (inRk rfl) (fun hc3 => ?_) (fun hc3 => ?_)
      · replace h := ifP h hc3
        refine vg_iconst (pc := 71) (dK D_Plan_meetsRival 39 rfl) ?_
        exact vg_iretB (pc := 72) (b := false) (dK D_Plan_meetsRival 40 rfl) rfl (leK rfl) (leK rfl) (fun _ => rfl) (by obtain rfl := Option.some.inj h; exact ⟨rfl, rfl⟩)
      · replace h := ifN h hc3
        refine vg_iconst (pc := 67) (dK D_Plan_meetsRival 37 rfl) ?_
        refine g_goto (pc := 68) (tgt := 72) (dK D_Plan_meetsRival 38 rfl) rfl ?_
        exact vg_iretB (pc := 72) (b := true) (dK D_Plan_meetsRival 40 rfl) rfl (leK rfl) (leK rfl) (fun _ => rfl) (by obtain rfl := Option.some.inj h; exact ⟨rfl, rfl⟩)
  · replace h := ifN h hc13
    refine g_iload (pc := 32) (j := 0) (dK D_Plan_meetsRival 16 rfl) rfl ?_
    refine vg_iconst (pc := 34) (dK D_Plan_meetsRival 17 rfl) ?_
    refine vg_idiv (pc := 35) (dK D_Plan_meetsRival 18 rfl) (g_in _ _ _) (inRk rfl) (by decide) ?_
    refine g_iloadn (pc := 36) (i0 := 2) (j := 4) (dK D_Plan_meetsRival 19 rfl) rfl rfl ?_
    refine nmE h (fun v5 e_v5 h => ?_)
    refine gsk (st' := [V a2, V v5]) (by rw [Vn e_v5]) ?_
    refine vg_icmp_ne (pc := 37) (t := 44) (dK D_Plan_meetsRival 20 rfl) rfl (Vn_in e_v5) ha2 (fun hc12 => ?_) (fun hc12 => ?_)
    · replace h := ifN h hc12
      refine vg_iconst (pc := 44) (dK D_Plan_meetsRival 23 rfl) ?_
      refine g_istore (pc := 45) (ls2 := [(5, V 0), (4, V (g S (tgt (tgt (tgt c0 0) 0) 6) a1.toNat)), (3, V (g S (tgt (tgt (tgt c0 0) 0) 1) a1.toNat)), (0, .ref c0), (1, V a1), (2, V a2)]) (dK D_Plan_meetsRival 24 rfl) (ltK rfl) rfl ?_
      refine g_iloadn (pc := 47) (i0 := 3) (j := 2) (dK D_Plan_meetsRival 25 rfl) rfl rfl ?_
      refine vg_if_eq (pc := 48) (t := 71) (dK D_Plan_meetsRival 26 rfl) rfl (g_in _ _ _) (fun hc8 => ?_) (fun hc8 => ?_)
      · replace h := ifP h hc8
        refine vg_iconst (pc := 71) (dK D_Plan_meetsRival 39 rfl) ?_
        exact vg_iretB (pc := 72) (b := false) (dK D_Plan_meetsRival 40 rfl) rfl (leK rfl) (leK rfl) (fun _ => rfl) (by obtain rfl := Option.some.inj h; exact ⟨rfl, rfl⟩)
      · replace h := ifN h hc8
        refine g_aloadn (pc := 51) (i0 := 0) (j := 3) (dK D_Plan_meetsRival 27 rfl) rfl rfl ?_
        refine vg_getA (pc := 52) (ci := 4) (f := 7) (dK D_Plan_meetsRival 28 rfl) q_323 hc0 (ltK rfl) (ltK rfl) rfl ?_
        refine g_iloadn (pc := 55) (i0 := 3) (j := 2) (dK D_Plan_meetsRival 29 rfl) rfl rfl ?_
        refine vg_bipush (pc := 56) (dK D_Plan_meetsRival 30 rfl) rfl ?_
        refine vg_imul (pc := 58) (dK D_Plan_meetsRival 31 rfl) ?_
        refine g_iloadn (pc := 59) (i0 := 2) (j := 5) (dK D_Plan_meetsRival 32 rfl) rfl rfl ?_
        refine vg_iadd (pc := 60) (dK D_Plan_meetsRival 33 rfl) ?_
        refine gdE h (fun hi6 h => ?_)
        refine vg_iaload (pc := 61) (j := ((((g S (tgt (tgt (tgt c0 0) 0) 1) a1.toNat) * 33) + a2)).toNat) (dK D_Plan_meetsRival 34 rfl) (hw_4_7 hc0) rfl hi6 rfl ?_
        refine g_iload (pc := 62) (j := 0) (dK D_Plan_meetsRival 35 rfl) rfl ?_
        refine vg_icmp_le (pc := 64) (t := 71) (dK D_Plan_meetsRival 36 rfl) rfl (g_in _ _ _) (inRk rfl) (fun hc7 => ?_) (fun hc7 => ?_)
        · replace h := ifP h hc7
          refine vg_iconst (pc := 71) (dK D_Plan_meetsRival 39 rfl) ?_
          exact vg_iretB (pc := 72) (b := false) (dK D_Plan_meetsRival 40 rfl) rfl (leK rfl) (leK rfl) (fun _ => rfl) (by obtain rfl := Option.some.inj h; exact ⟨rfl, rfl⟩)
        · replace h := ifN h hc7
          refine vg_iconst (pc := 67) (dK D_Plan_meetsRival 37 rfl) ?_
          refine g_goto (pc := 68) (tgt := 72) (dK D_Plan_meetsRival 38 rfl) rfl ?_
          exact vg_iretB (pc := 72) (b := true) (dK D_Plan_meetsRival 40 rfl) rfl (leK rfl) (leK rfl) (fun _ => rfl) (by obtain rfl := Option.some.inj h; exact ⟨rfl, rfl⟩)
    · replace h := ifP h hc12
      refine vg_iconst (pc := 40) (dK D_Plan_meetsRival 21 rfl) ?_
      refine g_goto (pc := 41) (tgt := 45) (dK D_Plan_meetsRival 22 rfl) rfl ?_
      refine g_istore (pc := 45) (ls2 := [(5, V 1), (4, V (g S (tgt (tgt (tgt c0 0) 0) 6) a1.toNat)), (3, V (g S (tgt (tgt (tgt c0 0) 0) 1) a1.toNat)), (0, .ref c0), (1, V a1), (2, V a2)]) (dK D_Plan_meetsRival 24 rfl) (ltK rfl) rfl ?_
      refine g_iloadn (pc := 47) (i0 := 3) (j := 2) (dK D_Plan_meetsRival 25 rfl) rfl rfl ?_
      refine vg_if_eq (pc := 48) (t := 71) (dK D_Plan_meetsRival 26 rfl) rfl (g_in _ _ _) (fun hc11 => ?_) (fun hc11 => ?_)
      · replace h := ifP h hc11
        refine vg_iconst (pc := 71) (dK D_Plan_meetsRival 39 rfl) ?_
        exact vg_iretB (pc := 72) (b := false) (dK D_Plan_meetsRival 40 rfl) rfl (leK rfl) (leK rfl) (fun _ => rfl) (by obtain rfl := Option.some.inj h; exact ⟨rfl, rfl⟩)
      · replace h := ifN h hc11
        refine g_aloadn (pc := 51) (i0 := 0) (j := 3) (dK D_Plan_meetsRival 27 rfl) rfl rfl ?_
        refine vg_getA (pc := 52) (ci := 4) (f := 7) (dK D_Plan_meetsRival 28 rfl) q_323 hc0 (ltK rfl) (ltK rfl) rfl ?_
        refine g_iloadn (pc := 55) (i0 := 3) (j := 2) (dK D_Plan_meetsRival 29 rfl) rfl rfl ?_
        refine vg_bipush (pc := 56) (dK D_Plan_meetsRival 30 rfl) rfl ?_
        refine vg_imul (pc := 58) (dK D_Plan_meetsRival 31 rfl) ?_
        refine g_iloadn (pc := 59) (i0 := 2) (j := 5) (dK D_Plan_meetsRival 32 rfl) rfl rfl ?_
        refine vg_iadd (pc := 60) (dK D_Plan_meetsRival 33 rfl) ?_
        refine gdE h (fun hi9 h => ?_)
        refine vg_iaload (pc := 61) (j := ((((g S (tgt (tgt (tgt c0 0) 0) 1) a1.toNat) * 33) + a2)).toNat) (dK D_Plan_meetsRival 34 rfl) (hw_4_7 hc0) rfl hi9 rfl ?_
        refine g_iload (pc := 62) (j := 0) (dK D_Plan_meetsRival 35 rfl) rfl ?_
        refine vg_icmp_le (pc := 64) (t := 71) (dK D_Plan_meetsRival 36 rfl) rfl (g_in _ _ _) (inRk rfl) (fun hc10 => ?_) (fun hc10 => ?_)
        · replace h := ifP h hc10
          refine vg_iconst (pc := 71) (dK D_Plan_meetsRival 39 rfl) ?_
          exact vg_iretB (pc := 72) (b := false) (dK D_Plan_meetsRival 40 rfl) rfl (leK rfl) (leK rfl) (fun _ => rfl) (by obtain rfl := Option.some.inj h; exact ⟨rfl, rfl⟩)
        · replace h := ifN h hc10
          refine vg_iconst (pc := 67) (dK D_Plan_meetsRival 37 rfl) ?_
          refine g_goto (pc := 68) (tgt := 72) (dK D_Plan_meetsRival 38 rfl) rfl ?_
          exact vg_iretB (pc := 72) (b := true) (dK D_Plan_meetsRival 40 rfl) rfl (leK rfl) (leK rfl) (fun _ => rfl) (by obtain rfl := Option.some.inj h; exact ⟨rfl, rfl⟩)
def fn_Plan_adReason (c0 : Nat) (a1 : Int) (a2 : Int) (S : St) : Option (Int) := bnO (fn_Plan_hasPage c0 a2 S) fun p1 => if p1 = true then (bnO (fn_Plan_isPrinted c0 a2 S) fun p3 => if p3 = true then (some 2) else (bnO (fn_Plan_roomFor c0 a1 a2 S) fun p5 => if 0 ≤ a1 ∧ a1 < 40 then (if (g S (tgt (tgt (tgt c0 0) 0) 0) a1.toNat) ≤ p5 then (bnO (fn_Plan_lacksColor c0 (g S (tgt (tgt (tgt c0 0) 0) 2) a1.toNat) a2 S) fun p7 => if p7 = true then (some 4) else (bnO (fn_Plan_isWrongSide (g S (tgt (tgt (tgt c0 0) 0) 3) a1.toNat) a2 S) fun p9 => if p9 = true then (some 5) else (nm (wr (a2.tdiv 2)) fun v11 => bnO (fn_Plan_meetsRival c0 a1 v11 S) fun p12 => if p12 = true then (some 6) else (some 0)))) else (some 3)) else none)) else (some 1)
theorem tf_Plan_adReason {E : EV} {X : XT} {c0 : Nat} (hc0 : HC X 4 c0) {a1 : Int} (ha1 : inR a1) {a2 : Int} (ha2 : inR a2) {S : St} {q : Int} (h : fn_Plan_adReason c0 a1 a2 S = some q) : Ev E M_Plan_adReason [.ref c0, V a1, V a2] (WX X S) 0 0 (KI X q S) := by
  refine Ev.of pn_Plan rfl (leK rfl) ?_
  show Go E M_Plan_adReason 0 0 0 [(0, .ref c0), (1, V a1), (2, V a2)] [] (WX X S) 0 0 (KI X q S)
  unfold fn_Plan_adReason at h
  refine g_aloadn (pc := 0) (i0 := 0) (j := 0) (dK D_Plan_adReason_0 0 rfl) rfl rfl ?_
  refine g_iloadn (pc := 1) (i0 := 2) (j := 2) (dK D_Plan_adReason_0 1 rfl) rfl rfl ?_
  refine bnE h (fun p1 e_p1 h => ?_)
  refine vg_cV (pc := 2) (As := [V a2]) (rest := []) (mc' := 0) (ms' := 0) (dK D_Plan_adReason_0 2 rfl) K_Plan_119 (fitK rfl) (ltK rfl) hc0 rfl (leK rfl) (leK rfl) (leK rfl) (tf_Plan_hasPage hc0 ha2 e_p1) (kcB ?_)
  refine vg_ifB_ne (pc := 5) (b := p1) (t := 10) (dK D_Plan_adReason_0 3 rfl) rfl (fun hc2 => ?_) (fun hc2 => ?_)
  · replace h := ifP h hc2
    refine g_aloadn (pc := 10) (i0 := 0) (j := 0) (dK D_Plan_adReason_0 6 rfl) rfl rfl ?_
    refine g_iloadn (pc := 11) (i0 := 2) (j := 2) (dK D_Plan_adReason_0 7 rfl) rfl rfl ?_
    refine bnE h (fun p3 e_p3 h => ?_)
    refine vg_cV (pc := 12) (As := [V a2]) (rest := []) (mc' := 0) (ms' := 0) (dK D_Plan_adReason_0 8 rfl) K_Plan_135 (fitK rfl) (ltK rfl) hc0 rfl (leK rfl) (leK rfl) (leK rfl) (tf_Plan_isPrinted hc0 ha2 e_p3) (kcB ?_)
    refine vg_ifB_eq (pc := 15) (b := p3) (t := 20) (dK D_Plan_adReason_0 9 rfl) rfl (fun hc4 => ?_) (fun hc4 => ?_)
    · replace h := ifP h hc4
      refine vg_iconst (pc := 18) (dK D_Plan_adReason_0 10 rfl) ?_
      exact vg_iretI (pc := 19) (r := 2) (dK D_Plan_adReason_0 11 rfl) rfl (leK rfl) (leK rfl) (fun _ => rfl) (by obtain rfl := Option.some.inj h; exact ⟨rfl, (inRk rfl), rfl⟩)
    · replace h := ifN h hc4
      refine g_aloadn (pc := 20) (i0 := 0) (j := 0) (dK D_Plan_adReason_0 12 rfl) rfl rfl ?_
      refine g_iloadn (pc := 21) (i0 := 1) (j := 1) (dK D_Plan_adReason_0 13 rfl) rfl rfl ?_
      refine g_iloadn (pc := 22) (i0 := 2) (j := 2) (dK D_Plan_adReason_0 14 rfl) rfl rfl ?_
      refine bnE h (fun p5 e_p5 h => ?_)
      refine vg_cV (pc := 23) (As := [V a1, V a2]) (rest := []) (mc' := 0) (ms' := 0) (dK D_Plan_adReason_0 15 rfl) K_Plan_149 (fitK rfl) (ltK rfl) hc0 rfl (leK rfl) (leK rfl) (leK rfl) (tf_Plan_roomFor hc0 ha1 ha2 e_p5) (kcI (fun h_p5 => ?_))
      refine g_aloadn (pc := 26) (i0 := 0) (j := 0) (dK D_Plan_adReason_0 16 rfl) rfl rfl ?_
      refine vg_getO (pc := 27) (ci := 4) (f := 0) (dK D_Plan_adReason_0 17 rfl) q_301 hc0 (ltK rfl) (ltK rfl) rfl ?_
      refine vg_getO (pc := 30) (ci := 8) (f := 0) (dK D_Plan_adReason_0 18 rfl) q_233 (hw_4_0 hc0) (ltK rfl) (ltK rfl) rfl ?_
      refine vg_getA (pc := 33) (ci := 0) (f := 0) (dK D_Plan_adReason_0 19 rfl) q_89 (hw_8_0 (hw_4_0 hc0)) (ltK rfl) (ltK rfl) rfl ?_
      refine g_iloadn (pc := 36) (i0 := 1) (j := 1) (dK D_Plan_adReason_0 20 rfl) rfl rfl ?_
      refine gdE h (fun hi6 h => ?_)
      refine vg_iaload (pc := 37) (j := a1.toNat) (dK D_Plan_adReason_0 21 rfl) (hw_0_0 (hw_8_0 (hw_4_0 hc0))) rfl hi6 rfl ?_
      refine vg_icmp_ge (pc := 38) (t := 43) (dK D_Plan_adReason_0 22 rfl) rfl h_p5 (g_in _ _ _) (fun hc14 => ?_) (fun hc14 => ?_)
      · replace h := ifP h hc14
        refine g_aloadn (pc := 43) (i0 := 0) (j := 0) (dK D_Plan_adReason_0 25 rfl) rfl rfl ?_
        refine g_aloadn (pc := 44) (i0 := 0) (j := 0) (dK D_Plan_adReason_0 26 rfl) rfl rfl ?_
        refine vg_getO (pc := 45) (ci := 4) (f := 0) (dK D_Plan_adReason_0 27 rfl) q_301 hc0 (ltK rfl) (ltK rfl) rfl ?_
        refine vg_getO (pc := 48) (ci := 8) (f := 0) (dK D_Plan_adReason_0 28 rfl) q_233 (hw_4_0 hc0) (ltK rfl) (ltK rfl) rfl ?_
        refine vg_getA (pc := 51) (ci := 0) (f := 2) (dK D_Plan_adReason_0 29 rfl) q_97 (hw_8_0 (hw_4_0 hc0)) (ltK rfl) (ltK rfl) rfl ?_
        refine g_iloadn (pc := 54) (i0 := 1) (j := 1) (dK D_Plan_adReason_0 30 rfl) rfl rfl ?_
        refine vg_iaload (pc := 55) (j := a1.toNat) (dK D_Plan_adReason_0 31 rfl) (hw_0_2 (hw_8_0 (hw_4_0 hc0))) rfl hi6 rfl ?_
        refine g_iloadn (pc := 56) (i0 := 2) (j := 2) (dK D_Plan_adReason_0 32 rfl) rfl rfl ?_
        refine bnE h (fun p7 e_p7 h => ?_)
        refine vg_cV (pc := 57) (As := [V (g S (tgt (tgt (tgt c0 0) 0) 2) a1.toNat), V a2]) (rest := []) (mc' := 0) (ms' := 0) (dK D_Plan_adReason_0 33 rfl) K_Plan_139 (fitK rfl) (ltK rfl) hc0 rfl (leK rfl) (leK rfl) (leK rfl) (tf_Plan_lacksColor hc0 (g_in _ _ _) ha2 e_p7) (kcB ?_)
        refine vg_ifB_eq (pc := 60) (b := p7) (t := 65) (dK D_Plan_adReason_0 34 rfl) rfl (fun hc8 => ?_) (fun hc8 => ?_)
        · replace h := ifP h hc8
          refine vg_iconst (pc := 63) (dK D_Plan_adReason_0 35 rfl) ?_
          exact vg_iretI (pc := 64) (r := 4) (dK D_Plan_adReason_0 36 rfl) rfl (leK rfl) (leK rfl) (fun _ => rfl) (by obtain rfl := Option.some.inj h; exact ⟨rfl, (inRk rfl), rfl⟩)
        · replace h := ifN h hc8
          refine g_aloadn (pc := 65) (i0 := 0) (j := 0) (dK D_Plan_adReason_0 37 rfl) rfl rfl ?_
          refine vg_getO (pc := 66) (ci := 4) (f := 0) (dK D_Plan_adReason_0 38 rfl) q_301 hc0 (ltK rfl) (ltK rfl) rfl ?_
          refine vg_getO (pc := 69) (ci := 8) (f := 0) (dK D_Plan_adReason_0 39 rfl) q_233 (hw_4_0 hc0) (ltK rfl) (ltK rfl) rfl ?_
          refine vg_getA (pc := 72) (ci := 0) (f := 3) (dK D_Plan_adReason_0 40 rfl) q_102 (hw_8_0 (hw_4_0 hc0)) (ltK rfl) (ltK rfl) rfl ?_
          refine g_iloadn (pc := 75) (i0 := 1) (j := 1) (dK D_Plan_adReason_0 41 rfl) rfl rfl ?_
          refine vg_iaload (pc := 76) (j := a1.toNat) (dK D_Plan_adReason_0 42 rfl) (hw_0_3 (hw_8_0 (hw_4_0 hc0))) rfl hi6 rfl ?_
          refine g_iloadn (pc := 77) (i0 := 2) (j := 2) (dK D_Plan_adReason_0 43 rfl) rfl rfl ?_
          refine bnE h (fun p9 e_p9 h => ?_)
          refine vg_cS (pc := 78) (As := [V (g S (tgt (tgt (tgt c0 0) 0) 3) a1.toNat), V a2]) (rest := []) (mc' := 0) (ms' := 0) (dK D_Plan_adReason_0 44 rfl) K_Plan_146 (fitK rfl) rfl (leK rfl) (leK rfl) (leK rfl) (tf_Plan_isWrongSide (g_in _ _ _) ha2 e_p9) (kcB ?_)
          refine vg_ifB_eq (pc := 81) (b := p9) (t := 86) (dK D_Plan_adReason_0 45 rfl) rfl (fun hc10 => ?_) (fun hc10 => ?_)
          · replace h := ifP h hc10
            refine vg_iconst (pc := 84) (dK D_Plan_adReason_0 46 rfl) ?_
            exact vg_iretI (pc := 85) (r := 5) (dK D_Plan_adReason_0 47 rfl) rfl (leK rfl) (leK rfl) (fun _ => rfl) (by obtain rfl := Option.some.inj h; exact ⟨rfl, (inRk rfl), rfl⟩)
          · replace h := ifN h hc10
            refine g_aloadn (pc := 86) (i0 := 0) (j := 0) (dK D_Plan_adReason_0 48 rfl) rfl rfl ?_
            refine g_iloadn (pc := 87) (i0 := 1) (j := 1) (dK D_Plan_adReason_0 49 rfl) rfl rfl ?_
            refine g_iloadn (pc := 88) (i0 := 2) (j := 2) (dK D_Plan_adReason_1 0 rfl) rfl rfl ?_
            refine vg_iconst (pc := 89) (dK D_Plan_adReason_1 1 rfl) ?_
            refine vg_idiv (pc := 90) (dK D_Plan_adReason_1 2 rfl) ha2 (inRk rfl) (by decide) ?_
            refine nmE h (fun v11 e_v11 h => ?_)
            refine gtop e_v11 ?_
            refine bnE h (fun p12 e_p12 h => ?_)
            refine vg_cV (pc := 91) (As := [V a1, V v11]) (rest := []) (mc' := 0) (ms' := 0) (dK D_Plan_adReason_1 3 rfl) K_Plan_152 (fitK rfl) (ltK rfl) hc0 rfl (leK rfl) (leK rfl) (leK rfl) (tf_Plan_meetsRival hc0 ha1 (Vn_in e_v11) e_p12) (kcB ?_)
            refine vg_ifB_eq (pc := 94) (b := p12) (t := 102) (dK D_Plan_adReason_1 4 rfl) rfl (fun hc13 => ?_) (fun hc13 => ?_)
            · replace h := ifP h hc13
              refine vg_bipush (pc := 97) (dK D_Plan_adReason_1 5 rfl) rfl ?_
              refine g_goto (pc := 99) (tgt := 103) (dK D_Plan_adReason_1 6 rfl) rfl ?_
              exact vg_iretI (pc := 103) (r := 6) (dK D_Plan_adReason_1 8 rfl) rfl (leK rfl) (leK rfl) (fun _ => rfl) (by obtain rfl := Option.some.inj h; exact ⟨rfl, (inRk rfl), rfl⟩)
            · replace h := ifN h hc13
              refine vg_iconst (pc := 102) (dK D_Plan_adReason_1 7 rfl) ?_
              exact vg_iretI (pc := 103) (r := 0) (dK D_Plan_adReason_1 8 rfl) rfl (leK rfl) (leK rfl) (fun _ => rfl) (by obtain rfl := Option.some.inj h; exact ⟨rfl, (inRk rfl), rfl⟩)
      · replace h := ifN h hc14
        refine vg_iconst (pc := 41) (dK D_Plan_adReason_0 23 rfl) ?_
        exact vg_iretI (pc := 42) (r := 3) (dK D_Plan_adReason_0 24 rfl) rfl (leK rfl) (leK rfl) (fun _ => rfl) (by obtain rfl := Option.some.inj h; exact ⟨rfl, (inRk rfl), rfl⟩)
  · replace h := ifN h hc2
    refine vg_iconst (pc := 8) (dK D_Plan_adReason_0 4 rfl) ?_
    exact vg_iretI (pc := 9) (r := 1) (dK D_Plan_adReason_0 5 rfl) rfl (leK rfl) (leK rfl) (fun _ => rfl) (by obtain rfl := Option.some.inj h; exact ⟨rfl, (inRk rfl), rfl⟩)
def fn_Reader_readPut (c0 : Nat) (S : St) : Option (Bool × St) := nm (wr ((g S (tgt (tgt (tgt c0 1) 0) 0) 7) - 1)) fun v1 => bnO (fn_Reader_readNumber c0 0 0 v1 S) fun p2 => if p2.1 = true then (bnO (fn_Reader_readNumber c0 1 1 (g p2.2 (tgt c0 1) 1) p2.2) fun p4 => if p4.1 = true then (if 0 ≤ (g p4.2 (tgt c0 2) 0) ∧ (g p4.2 (tgt c0 2) 0) < 40 then (if (g p4.2 (tgt (tgt (tgt (tgt c0 1) 0) 0) 6) (((g p4.2 (tgt c0 2) 0)).toNat)) = 0 then (bnO (fn_Plan_adReason (tgt c0 1) (g p4.2 (tgt c0 2) 0) (g p4.2 (tgt c0 2) 1) p4.2) fun p8 => if p8 = 0 then (nm (u p4.2 (tgt (tgt (tgt (tgt c0 1) 0) 0) 6) (((g p4.2 (tgt c0 2) 0)).toNat) (g p4.2 (tgt c0 2) 1)) fun S9 => bnO (fn_Plan_recount (tgt c0 1) S9) fun p10 => bnO (fn_Reader_readSemicolon c0 p10) fun p11 => some (p11.1, p11.2)) else (bnO (fn_Reader_fail c0 4 p4.2) fun p12 => some (p12.1, p12.2))) else (bnO (fn_Reader_fail c0 4 p4.2) fun p7 => some (p7.1, p7.2))) else none) else (some (false, p4.2))) else (some (false, p2.2))
theorem tf_Reader_readPut {E : EV} {X : XT} {c0 : Nat} (hc0 : HC X 5 c0) {S : St} {q : Bool × St} (h : fn_Reader_readPut c0 S = some q) : Ev E M_Reader_readPut [.ref c0] (WX X S) 0 0 (KB X q.1 q.2) := by
  refine Ev.of pn_Reader rfl (leK rfl) ?_
  show Go E M_Reader_readPut 0 0 0 [(0, .ref c0)] [] (WX X S) 0 0 (KB X q.1 q.2)
  unfold fn_Reader_readPut at h
  refine g_aloadn (pc := 0) (i0 := 0) (j := 0) (dK D_Reader_readPut_0 0 rfl) rfl rfl ?_
  refine vg_getO (pc := 1) (ci := 5) (f := 1) (dK D_Reader_readPut_0 1 rfl) q_344 hc0 (ltK rfl) (ltK rfl) rfl ?_
  refine vg_getO (pc := 4) (ci := 4) (f := 0) (dK D_Reader_readPut_0 2 rfl) q_304 (hw_5_1 hc0) (ltK rfl) (ltK rfl) rfl ?_
  refine vg_getO (pc := 7) (ci := 8) (f := 0) (dK D_Reader_readPut_0 3 rfl) q_234 (hw_4_0 (hw_5_1 hc0)) (ltK rfl) (ltK rfl) rfl ?_
  refine g_astoren (pc := 10) (i0 := 1) (ls2 := [(1, .ref (tgt (tgt (tgt c0 1) 0) 0)), (0, .ref c0)]) (dK D_Reader_readPut_0 4 rfl) rfl (ltK rfl) rfl ?_
  refine g_aloadn (pc := 11) (i0 := 0) (j := 1) (dK D_Reader_readPut_0 5 rfl) rfl rfl ?_
  refine vg_iconst (pc := 12) (dK D_Reader_readPut_0 6 rfl) ?_
  refine vg_iconst (pc := 13) (dK D_Reader_readPut_0 7 rfl) ?_
  refine g_aloadn (pc := 14) (i0 := 1) (j := 0) (dK D_Reader_readPut_0 8 rfl) rfl rfl ?_
  refine vg_getI (pc := 15) (ci := 0) (f := 7) (dK D_Reader_readPut_0 9 rfl) q_119 (hw_8_0 (hw_4_0 (hw_5_1 hc0))) (ltK rfl) (ltK rfl) rfl ?_
  refine vg_iconst (pc := 18) (dK D_Reader_readPut_0 10 rfl) ?_
  refine vg_isub (pc := 19) (dK D_Reader_readPut_0 11 rfl) ?_
  refine nmE h (fun v1 e_v1 h => ?_)
  refine gtop e_v1 ?_
  refine bnE h (fun p2 e_p2 h => ?_)
  refine vg_cV (pc := 20) (As := [V 0, V 0, V v1]) (rest := []) (mc' := 0) (ms' := 0) (dK D_Reader_readPut_0 12 rfl) K_Reader_64 (fitK rfl) (ltK rfl) hc0 rfl (leK rfl) (leK rfl) (leK rfl) (tf_Reader_readNumber hc0 (inRk rfl) (inRk rfl) (Vn_in e_v1) e_p2) (kcB ?_)
  refine vg_ifB_eq (pc := 23) (b := p2.1) (t := 42) (dK D_Reader_readPut_0 13 rfl) rfl (fun hc3 => ?_) (fun hc3 => ?_)
  · replace h := ifP h hc3
    refine g_aloadn (pc := 26) (i0 := 0) (j := 1) (dK D_Reader_readPut_0 14 rfl) rfl rfl ?_
    refine vg_iconst (pc := 27) (dK D_Reader_readPut_0 15 rfl) ?_
    refine vg_iconst (pc := 28) (dK D_Reader_readPut_0 16 rfl) ?_
    refine g_aloadn (pc := 29) (i0 := 0) (j := 1) (dK D_Reader_readPut_0 17 rfl) rfl rfl ?_
    refine vg_getO (pc := 30) (ci := 5) (f := 1) (dK D_Reader_readPut_0 18 rfl) q_344 hc0 (ltK rfl) (ltK rfl) rfl ?_
    refine vg_getI (pc := 33) (ci := 4) (f := 1) (dK D_Reader_readPut_0 19 rfl) q_308 (hw_5_1 hc0) (ltK rfl) (ltK rfl) rfl ?_
    refine bnE h (fun p4 e_p4 h => ?_)
    refine vg_cV (pc := 36) (As := [V 1, V 1, V (g p2.2 (tgt c0 1) 1)]) (rest := []) (mc' := 0) (ms' := 0) (dK D_Reader_readPut_0 20 rfl) K_Reader_64 (fitK rfl) (ltK rfl) hc0 rfl (leK rfl) (leK rfl) (leK rfl) (tf_Reader_readNumber hc0 (inRk rfl) (inRk rfl) (g_in _ _ _) e_p4) (kcB ?_)
    refine vg_ifB_ne (pc := 39) (b := p4.1) (t := 44) (dK D_Reader_readPut_0 21 rfl) rfl (fun hc5 => ?_) (fun hc5 => ?_)
    · replace h := ifP h hc5
      refine g_aloadn (pc := 44) (i0 := 1) (j := 0) (dK D_Reader_readPut_0 24 rfl) rfl rfl ?_
      refine vg_getA (pc := 45) (ci := 0) (f := 6) (dK D_Reader_readPut_0 25 rfl) q_115 (hw_8_0 (hw_4_0 (hw_5_1 hc0))) (ltK rfl) (ltK rfl) rfl ?_
      refine g_aloadn (pc := 48) (i0 := 0) (j := 1) (dK D_Reader_readPut_0 26 rfl) rfl rfl ?_
      refine vg_getA (pc := 49) (ci := 5) (f := 2) (dK D_Reader_readPut_0 27 rfl) q_346 hc0 (ltK rfl) (ltK rfl) rfl ?_
      refine vg_iconst (pc := 52) (dK D_Reader_readPut_0 28 rfl) ?_
      refine vg_iaload (pc := 53) (j := 0) (dK D_Reader_readPut_0 29 rfl) (hw_5_2 hc0) rfl ⟨by decide, by decide⟩ rfl ?_
      refine gdE h (fun hi6 h => ?_)
      refine vg_iaload (pc := 54) (j := ((g p4.2 (tgt c0 2) 0)).toNat) (dK D_Reader_readPut_0 30 rfl) (hw_0_6 (hw_8_0 (hw_4_0 (hw_5_1 hc0)))) rfl hi6 rfl ?_
      refine vg_if_ne (pc := 55) (t := 80) (dK D_Reader_readPut_0 31 rfl) rfl (g_in _ _ _) (fun hc14 => ?_) (fun hc14 => ?_)
      · replace h := ifN h hc14
        refine g_aloadn (pc := 80) (i0 := 0) (j := 1) (dK D_Reader_readPut_0 44 rfl) rfl rfl ?_
        refine vg_iconst (pc := 81) (dK D_Reader_readPut_0 45 rfl) ?_
        refine bnE h (fun p7 e_p7 h => ?_)
        refine vg_cV (pc := 82) (As := [V 4]) (rest := []) (mc' := 0) (ms' := 0) (dK D_Reader_readPut_0 46 rfl) K_Reader_68 (fitK rfl) (ltK rfl) hc0 rfl (leK rfl) (leK rfl) (leK rfl) (tf_Reader_fail hc0 (inRk rfl) e_p7) (kcB ?_)
        exact vg_iretB (pc := 85) (b := p7.1) (dK D_Reader_readPut_0 47 rfl) rfl (leK rfl) (leK rfl) (fun _ => rfl) (by obtain rfl := Option.some.inj h; exact ⟨rfl, rfl⟩)
      · replace h := ifP h hc14
        refine g_aloadn (pc := 58) (i0 := 0) (j := 1) (dK D_Reader_readPut_0 32 rfl) rfl rfl ?_
        refine vg_getO (pc := 59) (ci := 5) (f := 1) (dK D_Reader_readPut_0 33 rfl) q_344 hc0 (ltK rfl) (ltK rfl) rfl ?_
        refine g_aloadn (pc := 62) (i0 := 0) (j := 1) (dK D_Reader_readPut_0 34 rfl) rfl rfl ?_
        refine vg_getA (pc := 63) (ci := 5) (f := 2) (dK D_Reader_readPut_0 35 rfl) q_346 hc0 (ltK rfl) (ltK rfl) rfl ?_
        refine vg_iconst (pc := 66) (dK D_Reader_readPut_0 36 rfl) ?_
        refine vg_iaload (pc := 67) (j := 0) (dK D_Reader_readPut_0 37 rfl) (hw_5_2 hc0) rfl ⟨by decide, by decide⟩ rfl ?_
        refine g_aloadn (pc := 68) (i0 := 0) (j := 1) (dK D_Reader_readPut_0 38 rfl) rfl rfl ?_
        refine vg_getA (pc := 69) (ci := 5) (f := 2) (dK D_Reader_readPut_0 39 rfl) q_346 hc0 (ltK rfl) (ltK rfl) rfl ?_
        refine vg_iconst (pc := 72) (dK D_Reader_readPut_0 40 rfl) ?_
        refine vg_iaload (pc := 73) (j := 1) (dK D_Reader_readPut_0 41 rfl) (hw_5_2 hc0) rfl ⟨by decide, by decide⟩ rfl ?_
        refine bnE h (fun p8 e_p8 h => ?_)
        refine vg_cV (pc := 74) (As := [V (g p4.2 (tgt c0 2) 0), V (g p4.2 (tgt c0 2) 1)]) (rest := []) (mc' := 0) (ms' := 0) (dK D_Reader_readPut_0 42 rfl) K_Reader_174 (fitK rfl) (ltK rfl) (hw_5_1 hc0) rfl (leK rfl) (leK rfl) (leK rfl) (tf_Plan_adReason (hw_5_1 hc0) (g_in _ _ _) (g_in _ _ _) e_p8) (kcI (fun h_p8 => ?_))
        refine vg_if_eq (pc := 77) (t := 86) (dK D_Reader_readPut_0 43 rfl) rfl h_p8 (fun hc13 => ?_) (fun hc13 => ?_)
        · replace h := ifP h hc13
          refine g_aloadn (pc := 86) (i0 := 1) (j := 0) (dK D_Reader_readPut_0 48 rfl) rfl rfl ?_
          refine vg_getA (pc := 87) (ci := 0) (f := 6) (dK D_Reader_readPut_0 49 rfl) q_115 (hw_8_0 (hw_4_0 (hw_5_1 hc0))) (ltK rfl) (ltK rfl) rfl ?_
          refine g_aloadn (pc := 90) (i0 := 0) (j := 1) (dK D_Reader_readPut_1 0 rfl) rfl rfl ?_
          refine vg_getA (pc := 91) (ci := 5) (f := 2) (dK D_Reader_readPut_1 1 rfl) q_346 hc0 (ltK rfl) (ltK rfl) rfl ?_
          refine vg_iconst (pc := 94) (dK D_Reader_readPut_1 2 rfl) ?_
          refine vg_iaload (pc := 95) (j := 0) (dK D_Reader_readPut_1 3 rfl) (hw_5_2 hc0) rfl ⟨by decide, by decide⟩ rfl ?_
          refine g_aloadn (pc := 96) (i0 := 0) (j := 1) (dK D_Reader_readPut_1 4 rfl) rfl rfl ?_
          refine vg_getA (pc := 97) (ci := 5) (f := 2) (dK D_Reader_readPut_1 5 rfl) q_346 hc0 (ltK rfl) (ltK rfl) rfl ?_
          refine vg_iconst (pc := 100) (dK D_Reader_readPut_1 6 rfl) ?_
          refine vg_iaload (pc := 101) (j := 1) (dK D_Reader_readPut_1 7 rfl) (hw_5_2 hc0) rfl ⟨by decide, by decide⟩ rfl ?_
          refine nmE h (fun S9 e_S9 h => ?_)
          refine vg_iastore (pc := 102) (z := (g p4.2 (tgt c0 2) 1)) (dK D_Reader_readPut_1 8 rfl) (hw_0_6 (hw_8_0 (hw_4_0 (hw_5_1 hc0)))) rfl hi6 rfl e_S9 ?_
          refine g_aloadn (pc := 103) (i0 := 0) (j := 1) (dK D_Reader_readPut_1 9 rfl) rfl rfl ?_
          refine vg_getO (pc := 104) (ci := 5) (f := 1) (dK D_Reader_readPut_1 10 rfl) q_344 hc0 (ltK rfl) (ltK rfl) rfl ?_
          refine bnE h (fun p10 e_p10 h => ?_)
          refine vg_cV (pc := 107) (As := []) (rest := []) (mc' := 0) (ms' := 0) (dK D_Reader_readPut_1 11 rfl) K_Reader_178 (fitK rfl) (ltK rfl) (hw_5_1 hc0) rfl (leK rfl) (leK rfl) (leK rfl) (tf_Plan_recount (hw_5_1 hc0) e_p10) (kcU ?_)
          refine g_aloadn (pc := 110) (i0 := 0) (j := 1) (dK D_Reader_readPut_1 12 rfl) rfl rfl ?_
          refine bnE h (fun p11 e_p11 h => ?_)
          refine vg_cV (pc := 111) (As := []) (rest := []) (mc' := 0) (ms' := 0) (dK D_Reader_readPut_1 13 rfl) K_Reader_72 (fitK rfl) (ltK rfl) hc0 rfl (leK rfl) (leK rfl) (leK rfl) (tf_Reader_readSemicolon hc0 e_p11) (kcB ?_)
          exact vg_iretB (pc := 114) (b := p11.1) (dK D_Reader_readPut_1 14 rfl) rfl (leK rfl) (leK rfl) (fun _ => rfl) (by obtain rfl := Option.some.inj h; exact ⟨rfl, rfl⟩)
        · replace h := ifN h hc13
          refine g_aloadn (pc := 80) (i0 := 0) (j := 1) (dK D_Reader_readPut_0 44 rfl) rfl rfl ?_
          refine vg_iconst (pc := 81) (dK D_Reader_readPut_0 45 rfl) ?_
          refine bnE h (fun p12 e_p12 h => ?_)
          refine vg_cV (pc := 82) (As := [V 4]) (rest := []) (mc' := 0) (ms' := 0) (dK D_Reader_readPut_0 46 rfl) K_Reader_68 (fitK rfl) (ltK rfl) hc0 rfl (leK rfl) (leK rfl) (leK rfl) (tf_Reader_fail hc0 (inRk rfl) e_p12) (kcB ?_)
          exact vg_iretB (pc := 85) (b := p12.1) (dK D_Reader_readPut_0 47 rfl) rfl (leK rfl) (leK rfl) (fun _ => rfl) (by obtain rfl := Option.some.inj h; exact ⟨rfl, rfl⟩)
    · replace h := ifN h hc5
      refine vg_iconst (pc := 42) (dK D_Reader_readPut_0 22 rfl) ?_
      exact vg_iretB (pc := 43) (b := false) (dK D_Reader_readPut_0 23 rfl) rfl (leK rfl) (leK rfl) (fun _ => rfl) (by obtain rfl := Option.some.inj h; exact ⟨rfl, rfl⟩)
  · replace h := ifN h hc3
    refine vg_iconst (pc := 42) (dK D_Reader_readPut_0 22 rfl) ?_
    exact vg_iretB (pc := 43) (b := false) (dK D_Reader_readPut_0 23 rfl) rfl (leK rfl) (leK rfl) (fun _ => rfl) (by obtain rfl := Option.some.inj h; exact ⟨rfl, rfl⟩)
def fn_Plan_pageReason (c0 : Nat) (a1 : Int) (a2 : Int) (S : St) : Option (Int) := bnO (fn_Plan_isPrinted c0 a2 S) fun p1 => if p1 = true then (some 2) else (if 0 ≤ a2 ∧ a2 < 65 then (if 4 ≤ (g S (tgt c0 5) a2.toNat) then (if 0 ≤ a1 ∧ a1 < 10 then (bnO (fn_Plan_lacksColor c0 (g S (tgt (tgt (tgt c0 0) 1) 1) a1.toNat) a2 S) fun p5 => if p5 = true then (some 4) else (some 0)) else none) else (if (g S (tgt c0 6) a2.toNat) = a1 then (if 0 ≤ a1 ∧ a1 < 10 then (bnO (fn_Plan_lacksColor c0 (g S (tgt (tgt (tgt c0 0) 1) 1) a1.toNat) a2 S) fun p8 => if p8 = true then (some 4) else (some 0)) else none) else (some 3))) else none)
theorem tf_Plan_pageReason {E : EV} {X : XT} {c0 : Nat} (hc0 : HC X 4 c0) {a1 : Int} (ha1 : inR a1) {a2 : Int} (ha2 : inR a2) {S : St} {q : Int} (h : fn_Plan_pageReason c0 a1 a2 S = some q) : Ev E M_Plan_pageReason [.ref c0, V a1, V a2] (WX X S) 0 0 (KI X q S) := by
  refine Ev.of pn_Plan rfl (leK rfl) ?_
  show Go E M_Plan_pageReason 0 0 0 [(0, .ref c0), (1, V a1), (2, V a2)] [] (WX X S) 0 0 (KI X q S)
  unfold fn_Plan_pageReason at h
  refine g_aloadn (pc := 0) (i0 := 0) (j := 0) (dK D_Plan_pageReason 0 rfl) rfl rfl ?_
  refine g_iloadn (pc := 1) (i0 := 2) (j := 2) (dK D_Plan_pageReason 1 rfl) rfl rfl ?_
  refine bnE h (fun p1 e_p1 h => ?_)
  refine vg_cV (pc := 2) (As := [V a2]) (rest := []) (mc' := 0) (ms' := 0) (dK D_Plan_pageReason 2 rfl) K_Plan_135 (fitK rfl) (ltK rfl) hc0 rfl (leK rfl) (leK rfl) (leK rfl) (tf_Plan_isPrinted hc0 ha2 e_p1) (kcB ?_)
  refine vg_ifB_eq (pc := 5) (b := p1) (t := 10) (dK D_Plan_pageReason 3 rfl) rfl (fun hc2 => ?_) (fun hc2 => ?_)
  · replace h := ifP h hc2
    refine vg_iconst (pc := 8) (dK D_Plan_pageReason 4 rfl) ?_
    exact vg_iretI (pc := 9) (r := 2) (dK D_Plan_pageReason 5 rfl) rfl (leK rfl) (leK rfl) (fun _ => rfl) (by obtain rfl := Option.some.inj h; exact ⟨rfl, (inRk rfl), rfl⟩)
  · replace h := ifN h hc2
    refine g_aloadn (pc := 10) (i0 := 0) (j := 0) (dK D_Plan_pageReason 6 rfl) rfl rfl ?_
    refine vg_getA (pc := 11) (ci := 4) (f := 5) (dK D_Plan_pageReason 7 rfl) q_318 hc0 (ltK rfl) (ltK rfl) rfl ?_
    refine g_iloadn (pc := 14) (i0 := 2) (j := 2) (dK D_Plan_pageReason 8 rfl) rfl rfl ?_
    refine gdE h (fun hi3 h => ?_)
    refine vg_iaload (pc := 15) (j := a2.toNat) (dK D_Plan_pageReason 9 rfl) (hw_4_5 hc0) rfl hi3 rfl ?_
    refine vg_iconst (pc := 16) (dK D_Plan_pageReason 10 rfl) ?_
    refine vg_icmp_ge (pc := 17) (t := 32) (dK D_Plan_pageReason 11 rfl) rfl (g_in _ _ _) (inRk rfl) (fun hc11 => ?_) (fun hc11 => ?_)
    · replace h := ifP h hc11
      refine g_aloadn (pc := 32) (i0 := 0) (j := 0) (dK D_Plan_pageReason 20 rfl) rfl rfl ?_
      refine g_aloadn (pc := 33) (i0 := 0) (j := 0) (dK D_Plan_pageReason 21 rfl) rfl rfl ?_
      refine vg_getO (pc := 34) (ci := 4) (f := 0) (dK D_Plan_pageReason 22 rfl) q_301 hc0 (ltK rfl) (ltK rfl) rfl ?_
      refine vg_getO (pc := 37) (ci := 8) (f := 1) (dK D_Plan_pageReason 23 rfl) q_237 (hw_4_0 hc0) (ltK rfl) (ltK rfl) rfl ?_
      refine vg_getA (pc := 40) (ci := 9) (f := 1) (dK D_Plan_pageReason 24 rfl) q_150 (hw_8_1 (hw_4_0 hc0)) (ltK rfl) (ltK rfl) rfl ?_
      refine g_iloadn (pc := 43) (i0 := 1) (j := 1) (dK D_Plan_pageReason 25 rfl) rfl rfl ?_
      refine gdE h (fun hi4 h => ?_)
      refine vg_iaload (pc := 44) (j := a1.toNat) (dK D_Plan_pageReason 26 rfl) (hw_9_1 (hw_8_1 (hw_4_0 hc0))) rfl hi4 rfl ?_
      refine g_iloadn (pc := 45) (i0 := 2) (j := 2) (dK D_Plan_pageReason 27 rfl) rfl rfl ?_
      refine bnE h (fun p5 e_p5 h => ?_)
      refine vg_cV (pc := 46) (As := [V (g S (tgt (tgt (tgt c0 0) 1) 1) a1.toNat), V a2]) (rest := []) (mc' := 0) (ms' := 0) (dK D_Plan_pageReason 28 rfl) K_Plan_139 (fitK rfl) (ltK rfl) hc0 rfl (leK rfl) (leK rfl) (leK rfl) (tf_Plan_lacksColor hc0 (g_in _ _ _) ha2 e_p5) (kcB ?_)
      refine vg_ifB_eq (pc := 49) (b := p5) (t := 56) (dK D_Plan_pageReason 29 rfl) rfl (fun hc6 => ?_) (fun hc6 => ?_)
      · replace h := ifP h hc6
        refine vg_iconst (pc := 52) (dK D_Plan_pageReason 30 rfl) ?_
        refine g_goto (pc := 53) (tgt := 57) (dK D_Plan_pageReason 31 rfl) rfl ?_
        exact vg_iretI (pc := 57) (r := 4) (dK D_Plan_pageReason 33 rfl) rfl (leK rfl) (leK rfl) (fun _ => rfl) (by obtain rfl := Option.some.inj h; exact ⟨rfl, (inRk rfl), rfl⟩)
      · replace h := ifN h hc6
        refine vg_iconst (pc := 56) (dK D_Plan_pageReason 32 rfl) ?_
        exact vg_iretI (pc := 57) (r := 0) (dK D_Plan_pageReason 33 rfl) rfl (leK rfl) (leK rfl) (fun _ => rfl) (by obtain rfl := Option.some.inj h; exact ⟨rfl, (inRk rfl), rfl⟩)
    · replace h := ifN h hc11
      refine g_aloadn (pc := 20) (i0 := 0) (j := 0) (dK D_Plan_pageReason 12 rfl) rfl rfl ?_
      refine vg_getA (pc := 21) (ci := 4) (f := 6) (dK D_Plan_pageReason 13 rfl) q_320 hc0 (ltK rfl) (ltK rfl) rfl ?_
      refine g_iloadn (pc := 24) (i0 := 2) (j := 2) (dK D_Plan_pageReason 14 rfl) rfl rfl ?_
      refine vg_iaload (pc := 25) (j := a2.toNat) (dK D_Plan_pageReason 15 rfl) (hw_4_6 hc0) rfl hi3 rfl ?_
      refine g_iloadn (pc := 26) (i0 := 1) (j := 1) (dK D_Plan_pageReason 16 rfl) rfl rfl ?_
      refine vg_icmp_eq (pc := 27) (t := 32) (dK D_Plan_pageReason 17 rfl) rfl (g_in _ _ _) ha1 (fun hc10 => ?_) (fun hc10 => ?_)
      · replace h := ifP h hc10
        refine g_aloadn (pc := 32) (i0 := 0) (j := 0) (dK D_Plan_pageReason 20 rfl) rfl rfl ?_
        refine g_aloadn (pc := 33) (i0 := 0) (j := 0) (dK D_Plan_pageReason 21 rfl) rfl rfl ?_
        refine vg_getO (pc := 34) (ci := 4) (f := 0) (dK D_Plan_pageReason 22 rfl) q_301 hc0 (ltK rfl) (ltK rfl) rfl ?_
        refine vg_getO (pc := 37) (ci := 8) (f := 1) (dK D_Plan_pageReason 23 rfl) q_237 (hw_4_0 hc0) (ltK rfl) (ltK rfl) rfl ?_
        refine vg_getA (pc := 40) (ci := 9) (f := 1) (dK D_Plan_pageReason 24 rfl) q_150 (hw_8_1 (hw_4_0 hc0)) (ltK rfl) (ltK rfl) rfl ?_
        refine g_iloadn (pc := 43) (i0 := 1) (j := 1) (dK D_Plan_pageReason 25 rfl) rfl rfl ?_
        refine gdE h (fun hi7 h => ?_)
        refine vg_iaload (pc := 44) (j := a1.toNat) (dK D_Plan_pageReason 26 rfl) (hw_9_1 (hw_8_1 (hw_4_0 hc0))) rfl hi7 rfl ?_
        refine g_iloadn (pc := 45) (i0 := 2) (j := 2) (dK D_Plan_pageReason 27 rfl) rfl rfl ?_
        refine bnE h (fun p8 e_p8 h => ?_)
        refine vg_cV (pc := 46) (As := [V (g S (tgt (tgt (tgt c0 0) 1) 1) a1.toNat), V a2]) (rest := []) (mc' := 0) (ms' := 0) (dK D_Plan_pageReason 28 rfl) K_Plan_139 (fitK rfl) (ltK rfl) hc0 rfl (leK rfl) (leK rfl) (leK rfl) (tf_Plan_lacksColor hc0 (g_in _ _ _) ha2 e_p8) (kcB ?_)
        refine vg_ifB_eq (pc := 49) (b := p8) (t := 56) (dK D_Plan_pageReason 29 rfl) rfl (fun hc9 => ?_) (fun hc9 => ?_)
        · replace h := ifP h hc9
          refine vg_iconst (pc := 52) (dK D_Plan_pageReason 30 rfl) ?_
          refine g_goto (pc := 53) (tgt := 57) (dK D_Plan_pageReason 31 rfl) rfl ?_
          exact vg_iretI (pc := 57) (r := 4) (dK D_Plan_pageReason 33 rfl) rfl (leK rfl) (leK rfl) (fun _ => rfl) (by obtain rfl := Option.some.inj h; exact ⟨rfl, (inRk rfl), rfl⟩)
        · replace h := ifN h hc9
          refine vg_iconst (pc := 56) (dK D_Plan_pageReason 32 rfl) ?_
          exact vg_iretI (pc := 57) (r := 0) (dK D_Plan_pageReason 33 rfl) rfl (leK rfl) (leK rfl) (fun _ => rfl) (by obtain rfl := Option.some.inj h; exact ⟨rfl, (inRk rfl), rfl⟩)
      · replace h := ifN h hc10
        refine vg_iconst (pc := 30) (dK D_Plan_pageReason 18 rfl) ?_
        exact vg_iretI (pc := 31) (r := 3) (dK D_Plan_pageReason 19 rfl) rfl (leK rfl) (leK rfl) (fun _ => rfl) (by obtain rfl := Option.some.inj h; exact ⟨rfl, (inRk rfl), rfl⟩)
def fn_Plan_lowerReason (a0 : Int) (a1 : Int) (S : St) : Option (Int) := if a0 = 0 then (some (wr (a0 + a1))) else (if a1 = 0 then (some (wr (a0 + a1))) else (some (i_min a0 a1)))
theorem tf_Plan_lowerReason {E : EV} {X : XT} {a0 : Int} (ha0 : inR a0) {a1 : Int} (ha1 : inR a1) {S : St} {q : Int} (h : fn_Plan_lowerReason a0 a1 S = some q) : Ev E M_Plan_lowerReason [V a0, V a1] (WX X S) 0 0 (KI X q S) := by
  refine Ev.of pn_Plan rfl (leK rfl) ?_
  show Go E M_Plan_lowerReason 0 0 0 [(0, V a0), (1, V a1)] [] (WX X S) 0 0 (KI X q S)
  unfold fn_Plan_lowerReason at h
  refine g_iloadn (pc := 0) (i0 := 0) (j := 0) (dK D_Plan_lowerReason 0 rfl) rfl rfl ?_
  refine vg_if_eq (pc := 1) (t := 8) (dK D_Plan_lowerReason 1 rfl) rfl ha0 (fun hc2 => ?_) (fun hc2 => ?_)
  · replace h := ifP h hc2
    refine g_iloadn (pc := 8) (i0 := 0) (j := 0) (dK D_Plan_lowerReason 4 rfl) rfl rfl ?_
    refine g_iloadn (pc := 9) (i0 := 1) (j := 1) (dK D_Plan_lowerReason 5 rfl) rfl rfl ?_
    refine vg_iadd (pc := 10) (dK D_Plan_lowerReason 6 rfl) ?_
    refine gtop (x := (wr (a0 + a1))) rfl ?_
    exact vg_iretI (pc := 11) (r := (wr (a0 + a1))) (dK D_Plan_lowerReason 7 rfl) rfl (leK rfl) (leK rfl) (fun _ => rfl) (by obtain rfl := Option.some.inj h; exact ⟨rfl, (wr_in _), rfl⟩)
  · replace h := ifN h hc2
    refine g_iloadn (pc := 4) (i0 := 1) (j := 1) (dK D_Plan_lowerReason 2 rfl) rfl rfl ?_
    refine vg_if_ne (pc := 5) (t := 12) (dK D_Plan_lowerReason 3 rfl) rfl ha1 (fun hc1 => ?_) (fun hc1 => ?_)
    · replace h := ifN h hc1
      refine g_iloadn (pc := 12) (i0 := 0) (j := 0) (dK D_Plan_lowerReason 8 rfl) rfl rfl ?_
      refine g_iloadn (pc := 13) (i0 := 1) (j := 1) (dK D_Plan_lowerReason 9 rfl) rfl rfl ?_
      refine vg_mmin (pc := 14) (dK D_Plan_lowerReason 10 rfl) q_290 (leK rfl) (leK rfl) (leK rfl) (leK rfl) ha0 ha1 ?_
      exact vg_iretI (pc := 17) (r := (i_min a0 a1)) (dK D_Plan_lowerReason 11 rfl) rfl (leK rfl) (leK rfl) (fun _ => rfl) (by obtain rfl := Option.some.inj h; exact ⟨rfl, (i_min_in ha0 ha1), rfl⟩)
    · replace h := ifP h hc1
      refine g_iloadn (pc := 8) (i0 := 0) (j := 0) (dK D_Plan_lowerReason 4 rfl) rfl rfl ?_
      refine g_iloadn (pc := 9) (i0 := 1) (j := 1) (dK D_Plan_lowerReason 5 rfl) rfl rfl ?_
      refine vg_iadd (pc := 10) (dK D_Plan_lowerReason 6 rfl) ?_
      refine gtop (x := (wr (a0 + a1))) rfl ?_
      exact vg_iretI (pc := 11) (r := (wr (a0 + a1))) (dK D_Plan_lowerReason 7 rfl) rfl (leK rfl) (leK rfl) (fun _ => rfl) (by obtain rfl := Option.some.inj h; exact ⟨rfl, (wr_in _), rfl⟩)
