def fn_Law_thrownByPage (c0 : Nat) (a1 : Int) (S : St) : Option (Int) := bnO (fn_FP_page c0 a1 0 S) fun p1 => if p1.1 = 0 then (some 0) else (if p1.1 = 1 then (some 1) else none)
theorem tf_Law_thrownByPage {E : EV} {X : XT} (hfl : X.2.2.2 = false) {c0 : Nat} (hc0 : HC X 10 c0) {a1 : Int} (ha1 : inR a1) {S : St} {q : Int} (h : fn_Law_thrownByPage c0 a1 S = some q) : EvH E M_Law_thrownByPage [.ref c0, V a1] (WX X S) 1 6 (KI X q S) := by
  refine EvH.of pn_Law (leK rfl) ?_
  show Go E M_Law_thrownByPage 1 6 0 [(0, .ref c0), (1, V a1)] [] (WX X S) 0 0 (KI X q S)
  unfold fn_Law_thrownByPage at h
  refine g_aloadn (pc := 0) (i0 := 0) (j := 0) (dK D_Law_thrownByPage 0 rfl) rfl rfl ?_
  refine g_iloadn (pc := 1) (i0 := 1) (j := 1) (dK D_Law_thrownByPage 1 rfl) rfl rfl ?_
  refine vg_iconst (pc := 2) (dK D_Law_thrownByPage 2 rfl) ?_
  refine bnE h (fun p1 e_p1 h => ?_)
  refine vg_cVX hfl (pc := 3) (As := [V a1, V 0]) (rest := []) (mc' := 1) (ms' := 6) (dK D_Law_thrownByPage 3 rfl) K_Law_28 (fitK rfl) (ltK rfl) hc0 rfl (leK rfl) (leK rfl) (leK rfl) (tf_FP_page hfl hc0 ha1 (inRk rfl) e_p1) (kxT hfl (fun he2 => kxI hfl (fun h_p1 => ?_)) (fun he2 => ?_))
  · replace h := ifP h he2
    refine g_pop (pc := 6) (dK D_Law_thrownByPage 4 rfl) rfl ?_
    refine g_goto (pc := 7) (tgt := 13) (dK D_Law_thrownByPage 5 rfl) rfl ?_
    refine vg_iconst (pc := 13) (dK D_Law_thrownByPage 9 rfl) ?_
    exact vg_iretI (pc := 14) (r := 0) (dK D_Law_thrownByPage 10 rfl) rfl (leK rfl) (leK rfl) (xf hfl) (by obtain rfl := Option.some.inj h; exact ⟨rfl, (inRk rfl), rfl⟩)
  · replace h := ifN h he2
    by_cases hq3 : p1.1 = 1
    · have h := ifP h hq3
      rw [hq3]
      exact ⟨_, CT_Law_thrownByPage_3_1, (by obtain rfl := Option.some.inj h; exact ⟨rfl, (inRk rfl), rfl⟩)⟩
    · replace h := ifN h hq3
      exact nomatch h
def lb_FP_quarterPrice_15 (c0 : Nat) (c1 : Nat) (S : St) (go : Int × Int → Option (Int)) (a2 : Int) (a3 : Int) : Option (Int) := if (g S c1 7) ≤ a3 then (some a2) else (if 0 ≤ a3 ∧ a3 < 40 then (if (g S (tgt c1 6) a3.toNat) = 0 then (nm (wr (a3 + 1)) fun v2 => go (a2, v2)) else (nm (wr (a2 + (g S (tgt c1 0) a3.toNat))) fun v3 => nm (wr (a3 + 1)) fun v4 => go (v3, v4))) else none)
def lo_FP_quarterPrice_15 (c0 : Nat) (c1 : Nat) (S : St) : Nat → Int × Int → Option (Int) := lp fun go p => lb_FP_quarterPrice_15 c0 c1 S go p.1 p.2
theorem tl_FP_quarterPrice_15 {E : EV} {X : XT} (hfl : X.2.2.2 = false) {c0 : Nat} (hc0 : HC X 10 c0) {c1 : Nat} (hc1 : HC X 0 c1) {S : St} {K : RK → PS → Prop} {q : Int} (hx : inR q → Go E M_FP_quarterPrice 1 6 47 [(0, .ref c0), (2, V q)] [] (WX X S) 0 0 K) : ∀ n a, lo_FP_quarterPrice_15 c0 c1 S n a = some q → inR a.1 → inR a.2 → Go E M_FP_quarterPrice 1 6 15 [(0, .ref c0), (1, .ref c1), (2, V a.1), (3, V a.2)] [] (WX X S) 0 0 K := by
  refine lp_ind (P := fun a : Int × Int => inR a.1 → inR a.2 → Go E M_FP_quarterPrice 1 6 15 [(0, .ref c0), (1, .ref c1), (2, V a.1), (3, V a.2)] [] (WX X S) 0 0 K) (fun go ih a h => ?_)
  obtain ⟨a2, a3⟩ := a
  intro ha2 ha3
  show Go E M_FP_quarterPrice 1 6 15 [(0, .ref c0), (1, .ref c1), (2, V a2), (3, V a3)] [] (WX X S) 0 0 K
  replace h : lb_FP_quarterPrice_15 c0 c1 S go a2 a3 = some q := h
  unfold lb_FP_quarterPrice_15 at h
  refine g_iloadn (pc := 15) (i0 := 3) (j := 3) (dK D_FP_quarterPrice 9 rfl) rfl rfl ?_
  refine g_aloadn (pc := 16) (i0 := 1) (j := 1) (dK D_FP_quarterPrice 10 rfl) rfl rfl ?_
  refine vg_getI (pc := 17) (ci := 0) (f := 7) (dK D_FP_quarterPrice 11 rfl) q_120 hc1 (ltK rfl) (ltK rfl) rfl ?_
  refine vg_icmp_ge (pc := 20) (t := 47) (dK D_FP_quarterPrice 12 rfl) rfl ha3 (g_in _ _ _) (fun hc6 => ?_) (fun hc6 => ?_)
  · replace h := ifP h hc6
    obtain rfl := Option.some.inj h
    refine gL_weak (ls' := [(0, .ref c0), (2, V a2)]) (sbc 0 rfl (sbc 2 rfl sbn)) ?_
    exact hx ha2
  · replace h := ifN h hc6
    refine g_aloadn (pc := 23) (i0 := 1) (j := 1) (dK D_FP_quarterPrice 13 rfl) rfl rfl ?_
    refine vg_getA (pc := 24) (ci := 0) (f := 6) (dK D_FP_quarterPrice 14 rfl) q_114 hc1 (ltK rfl) (ltK rfl) rfl ?_
    refine g_iloadn (pc := 27) (i0 := 3) (j := 3) (dK D_FP_quarterPrice 15 rfl) rfl rfl ?_
    refine gdE h (fun hi1 h => ?_)
    refine vg_iaload (pc := 28) (j := a3.toNat) (dK D_FP_quarterPrice 16 rfl) (hw_0_6 hc1) rfl hi1 rfl ?_
    refine vg_if_eq (pc := 29) (t := 41) (dK D_FP_quarterPrice 17 rfl) rfl (g_in _ _ _) (fun hc5 => ?_) (fun hc5 => ?_)
    · replace h := ifP h hc5
      refine nmE h (fun v2 e_v2 h => ?_)
      refine vg_iinc (pc := 41) (j := 3) (a := a3) (z := 1) (ls2 := [(3, V v2), (0, .ref c0), (1, .ref c1), (2, V a2)]) (dK D_FP_quarterPrice 25 rfl) rfl e_v2 (ltK rfl) rfl ?_
      refine g_goto (pc := 44) (tgt := 15) (dK D_FP_quarterPrice 26 rfl) rfl ?_
      refine gL_weak (ls' := [(0, .ref c0), (1, .ref c1), (2, V a2), (3, V v2)]) (sbc 1 rfl (sbc 2 rfl (sbc 3 rfl (sbc 0 rfl sbn)))) ?_
      replace h := ih _ h
      exact h ha2 (Vn_in e_v2)
    · replace h := ifN h hc5
      refine g_iloadn (pc := 32) (i0 := 2) (j := 2) (dK D_FP_quarterPrice 18 rfl) rfl rfl ?_
      refine g_aloadn (pc := 33) (i0 := 1) (j := 1) (dK D_FP_quarterPrice 19 rfl) rfl rfl ?_
      refine vg_getA (pc := 34) (ci := 0) (f := 0) (dK D_FP_quarterPrice 20 rfl) q_90 hc1 (ltK rfl) (ltK rfl) rfl ?_
      refine g_iloadn (pc := 37) (i0 := 3) (j := 3) (dK D_FP_quarterPrice 21 rfl) rfl rfl ?_
      refine vg_iaload (pc := 38) (j := a3.toNat) (dK D_FP_quarterPrice 22 rfl) (hw_0_0 hc1) rfl hi1 rfl ?_
      refine vg_iadd (pc := 39) (dK D_FP_quarterPrice 23 rfl) ?_
      refine nmE h (fun v3 e_v3 h => ?_)
      refine gtop e_v3 ?_
      refine g_istoren (pc := 40) (i0 := 2) (ls2 := [(2, V v3), (0, .ref c0), (1, .ref c1), (3, V a3)]) (dK D_FP_quarterPrice 24 rfl) rfl (ltK rfl) rfl ?_
      refine nmE h (fun v4 e_v4 h => ?_)
      refine vg_iinc (pc := 41) (j := 3) (a := a3) (z := 1) (ls2 := [(3, V v4), (2, V v3), (0, .ref c0), (1, .ref c1)]) (dK D_FP_quarterPrice 25 rfl) rfl e_v4 (ltK rfl) rfl ?_
      refine g_goto (pc := 44) (tgt := 15) (dK D_FP_quarterPrice 26 rfl) rfl ?_
      refine gL_weak (ls' := [(0, .ref c0), (1, .ref c1), (2, V v3), (3, V v4)]) (sbc 2 rfl (sbc 3 rfl (sbc 1 rfl (sbc 0 rfl sbn)))) ?_
      replace h := ih _ h
      exact h (Vn_in e_v3) (Vn_in e_v4)
def fn_FP_quarterPrice (c0 : Nat) (S : St) : Option (Nat × UInt64) := bnO (lo_FP_quarterPrice_15 c0 (tgt (tgt (tgt c0 3) 0) 0) S FU (0, 0)) fun p7 => if p7 = 0 then (some (3, 0)) else (bnO (fn_FP_revenue c0 S) fun p8 => if ((FP.ddiv (i_d p8) (i_d p7)) &&& 0x7fffffffffffffff) ≤ 0x7ff0000000000000 then (some (0, (FP.ddiv (i_d p8) (i_d p7)))) else none)
theorem tf_FP_quarterPrice {E : EV} {X : XT} (hfl : X.2.2.2 = false) {c0 : Nat} (hc0 : HC X 10 c0) {S : St} {q : Nat × UInt64} (h : fn_FP_quarterPrice c0 S = some q) : Ev E M_FP_quarterPrice [.ref c0] (WX X S) 1 6 (KT X q.1 S (KD X q.2 S)) := by
  refine Ev.of pn_FP rfl (leK rfl) ?_
  show Go E M_FP_quarterPrice 1 6 0 [(0, .ref c0)] [] (WX X S) 0 0 (KT X q.1 S (KD X q.2 S))
  unfold fn_FP_quarterPrice at h
  refine g_aloadn (pc := 0) (i0 := 0) (j := 0) (dK D_FP_quarterPrice 0 rfl) rfl rfl ?_
  refine vg_getO (pc := 1) (ci := 10) (f := 3) (dK D_FP_quarterPrice 1 rfl) q_436 hc0 (ltK rfl) (ltK rfl) rfl ?_
  refine vg_getO (pc := 4) (ci := 4) (f := 0) (dK D_FP_quarterPrice 2 rfl) q_303 (hw_10_3 hc0) (ltK rfl) (ltK rfl) rfl ?_
  refine vg_getO (pc := 7) (ci := 8) (f := 0) (dK D_FP_quarterPrice 3 rfl) q_235 (hw_4_0 (hw_10_3 hc0)) (ltK rfl) (ltK rfl) rfl ?_
  refine g_astoren (pc := 10) (i0 := 1) (ls2 := [(1, .ref (tgt (tgt (tgt c0 3) 0) 0)), (0, .ref c0)]) (dK D_FP_quarterPrice 4 rfl) rfl (ltK rfl) rfl ?_
  refine vg_iconst (pc := 11) (dK D_FP_quarterPrice 5 rfl) ?_
  refine g_istoren (pc := 12) (i0 := 2) (ls2 := [(2, V 0), (1, .ref (tgt (tgt (tgt c0 3) 0) 0)), (0, .ref c0)]) (dK D_FP_quarterPrice 6 rfl) rfl (ltK rfl) rfl ?_
  refine vg_iconst (pc := 13) (dK D_FP_quarterPrice 7 rfl) ?_
  refine g_istoren (pc := 14) (i0 := 3) (ls2 := [(3, V 0), (2, V 0), (1, .ref (tgt (tgt (tgt c0 3) 0) 0)), (0, .ref c0)]) (dK D_FP_quarterPrice 8 rfl) rfl (ltK rfl) rfl ?_
  refine bnE h (fun p7 e_p7 h => ?_)
  refine gL_weak (ls' := [(0, .ref c0), (1, .ref (tgt (tgt (tgt c0 3) 0) 0)), (2, V 0), (3, V 0)]) (sbc 3 rfl (sbc 2 rfl (sbc 1 rfl (sbc 0 rfl sbn)))) ?_
  refine tl_FP_quarterPrice_15 hfl hc0 (hw_8_0 (hw_4_0 (hw_10_3 hc0))) (fun hx2_p7 => ?_) FU (0, 0) e_p7 (inRk rfl) (inRk rfl)
  refine g_iloadn (pc := 47) (i0 := 2) (j := 1) (dK D_FP_quarterPrice 27 rfl) rfl rfl ?_
  refine vg_if_ne (pc := 48) (t := 62) (dK D_FP_quarterPrice 28 rfl) rfl hx2_p7 (fun hc10 => ?_) (fun hc10 => ?_)
  · replace h := ifN h hc10
    refine g_aloadn (pc := 62) (i0 := 0) (j := 0) (dK D_FP_quarterPrice 34 rfl) rfl rfl ?_
    refine bnE h (fun p8 e_p8 h => ?_)
    refine vg_cV (pc := 63) (As := []) (rest := []) (mc' := 0) (ms' := 0) (dK D_FP_quarterPrice 35 rfl) K_FP_348 (fitK rfl) (ltK rfl) hc0 rfl (leK rfl) (leK rfl) (leK rfl) (tf_FP_revenue hc0 e_p8) (kcI (fun h_p8 => ?_))
    refine vg_i2d (pc := 66) (dK D_FP_quarterPrice 36 rfl) ?_
    refine g_iloadn (pc := 67) (i0 := 2) (j := 1) (dK D_FP_quarterPrice 37 rfl) rfl rfl ?_
    refine vg_i2d (pc := 68) (dK D_FP_quarterPrice 38 rfl) ?_
    refine gdE h (fun hd9 h => ?_)
    refine g_ddiv (pc := 69) (dK D_FP_quarterPrice 39 rfl) hd9 ?_
    exact g_dreturn (pc := 70) (dK D_FP_quarterPrice 40 rfl) rfl (leK rfl) (leK rfl) (xf hfl) (by obtain rfl := Option.some.inj h; exact KT_ok ⟨rfl, rfl⟩)
  · replace h := ifP h hc10
    exact vg_throwW hfl (pc := 51) TH_FP_343_345 (dK D_FP_quarterPrice 29 rfl) (dK D_FP_quarterPrice 30 rfl) (dK D_FP_quarterPrice 31 rfl) (dK D_FP_quarterPrice 32 rfl) (dK D_FP_quarterPrice 33 rfl) rfl (leK rfl) (leK rfl) (leK rfl) (leK rfl) (leK rfl) (by obtain rfl := Option.some.inj h; exact KT_thr (e := 3) (by decide))
def fn_Law_thrownByPrice (c0 : Nat) (S : St) : Option (Int) := bnO (fn_FP_quarterPrice c0 S) fun p1 => if p1.1 = 0 then (some 0) else (if p1.1 = 3 then (some 3) else none)
theorem tf_Law_thrownByPrice {E : EV} {X : XT} (hfl : X.2.2.2 = false) {c0 : Nat} (hc0 : HC X 10 c0) {S : St} {q : Int} (h : fn_Law_thrownByPrice c0 S = some q) : EvH E M_Law_thrownByPrice [.ref c0] (WX X S) 1 6 (KI X q S) := by
  refine EvH.of pn_Law (leK rfl) ?_
  show Go E M_Law_thrownByPrice 1 6 0 [(0, .ref c0)] [] (WX X S) 0 0 (KI X q S)
  unfold fn_Law_thrownByPrice at h
  refine g_aloadn (pc := 0) (i0 := 0) (j := 0) (dK D_Law_thrownByPrice 0 rfl) rfl rfl ?_
  refine bnE h (fun p1 e_p1 h => ?_)
  refine vg_cVX hfl (pc := 1) (As := []) (rest := []) (mc' := 1) (ms' := 6) (dK D_Law_thrownByPrice 1 rfl) K_Law_34 (fitK rfl) (ltK rfl) hc0 rfl (leK rfl) (leK rfl) (leK rfl) (tf_FP_quarterPrice hfl hc0 e_p1) (kxT hfl (fun he2 => kxD hfl ?_) (fun he2 => ?_))
  · replace h := ifP h he2
    refine g_pop2 (pc := 4) (dK D_Law_thrownByPrice 2 rfl) rfl ?_
    refine g_goto (pc := 5) (tgt := 11) (dK D_Law_thrownByPrice 3 rfl) rfl ?_
    refine vg_iconst (pc := 11) (dK D_Law_thrownByPrice 7 rfl) ?_
    exact vg_iretI (pc := 12) (r := 0) (dK D_Law_thrownByPrice 8 rfl) rfl (leK rfl) (leK rfl) (xf hfl) (by obtain rfl := Option.some.inj h; exact ⟨rfl, (inRk rfl), rfl⟩)
  · replace h := ifN h he2
    by_cases hq3 : p1.1 = 3
    · have h := ifP h hq3
      rw [hq3]
      exact ⟨_, CT_Law_thrownByPrice_1_3, (by obtain rfl := Option.some.inj h; exact ⟨rfl, (inRk rfl), rfl⟩)⟩
    · replace h := ifN h hq3
      exact nomatch h
def lb_FP_adOn_22 (a1 : Int) (a2 : Int) (c3 : Nat) (S : St) (go : Int × Int → Option ((Int) ⊕ (Unit))) (a4 : Int) (a5 : Int) : Option ((Int) ⊕ (Unit)) := if (g S c3 7) ≤ a5 then (some (.inr ())) else (if 0 ≤ a5 ∧ a5 < 40 then (if (g S (tgt c3 6) a5.toNat) = a1 then (if a4 = a2 then (some (.inl a5)) else (nm (wr (a4 + 1)) fun v4 => nm (wr (a5 + 1)) fun v5 => go (v4, v5))) else (nm (wr (a5 + 1)) fun v3 => go (a4, v3))) else none)
def lo_FP_adOn_22 (a1 : Int) (a2 : Int) (c3 : Nat) (S : St) : Nat → Int × Int → Option ((Int) ⊕ (Unit)) := lp fun go p => lb_FP_adOn_22 a1 a2 c3 S go p.1 p.2
theorem tl_FP_adOn_22 {E : EV} {X : XT} (hfl : X.2.2.2 = false) {a1 : Int} (ha1 : inR a1) {a2 : Int} (ha2 : inR a2) {c3 : Nat} (hc3 : HC X 0 c3) {S : St} {K : RK → PS → Prop} {q : (Int) ⊕ (Unit)} (hx : ∀ p, q = .inr p → Go E M_FP_adOn 1 6 60 [] [] (WX X S) 1 6 K) (hr : ∀ p, q = .inl p → inR p → K (.inl (some (V p))) (WX X S)) : ∀ n a, lo_FP_adOn_22 a1 a2 c3 S n a = some q → inR a.1 → inR a.2 → Go E M_FP_adOn 1 6 22 [(1, V a1), (2, V a2), (3, .ref c3), (4, V a.1), (5, V a.2)] [] (WX X S) 1 6 K := by
  refine lp_ind (P := fun a : Int × Int => inR a.1 → inR a.2 → Go E M_FP_adOn 1 6 22 [(1, V a1), (2, V a2), (3, .ref c3), (4, V a.1), (5, V a.2)] [] (WX X S) 1 6 K) (fun go ih a h => ?_)
  obtain ⟨a4, a5⟩ := a
  intro ha4 ha5
  show Go E M_FP_adOn 1 6 22 [(1, V a1), (2, V a2), (3, .ref c3), (4, V a4), (5, V a5)] [] (WX X S) 1 6 K
  replace h : lb_FP_adOn_22 a1 a2 c3 S go a4 a5 = some q := h
  unfold lb_FP_adOn_22 at h
  refine g_iload (pc := 22) (j := 4) (dK D_FP_adOn 12 rfl) rfl ?_
  refine g_aloadn (pc := 24) (i0 := 3) (j := 2) (dK D_FP_adOn 13 rfl) rfl rfl ?_
  refine vg_getI (pc := 25) (ci := 0) (f := 7) (dK D_FP_adOn 14 rfl) q_120 hc3 (ltK rfl) (ltK rfl) rfl ?_
  refine vg_icmp_ge (pc := 28) (t := 60) (dK D_FP_adOn 15 rfl) rfl ha5 (g_in _ _ _) (fun hc8 => ?_) (fun hc8 => ?_)
  · replace h := ifP h hc8
    refine gL_weak (ls' := []) sbn ?_
    exact hx _ (Option.some.inj h).symm 
  · replace h := ifN h hc8
    refine g_aloadn (pc := 31) (i0 := 3) (j := 2) (dK D_FP_adOn 16 rfl) rfl rfl ?_
    refine vg_getA (pc := 32) (ci := 0) (f := 6) (dK D_FP_adOn 17 rfl) q_114 hc3 (ltK rfl) (ltK rfl) rfl ?_
    refine g_iload (pc := 35) (j := 4) (dK D_FP_adOn 18 rfl) rfl ?_
    refine gdE h (fun hi2 h => ?_)
    refine vg_iaload (pc := 37) (j := a5.toNat) (dK D_FP_adOn 19 rfl) (hw_0_6 hc3) rfl hi2 rfl ?_
    refine g_iloadn (pc := 38) (i0 := 1) (j := 0) (dK D_FP_adOn 20 rfl) rfl rfl ?_
    refine vg_icmp_ne (pc := 39) (t := 54) (dK D_FP_adOn 21 rfl) rfl (g_in _ _ _) ha1 (fun hc7 => ?_) (fun hc7 => ?_)
    · replace h := ifN h hc7
      refine nmE h (fun v3 e_v3 h => ?_)
      refine vg_iinc (pc := 54) (j := 4) (a := a5) (z := 1) (ls2 := [(5, V v3), (1, V a1), (2, V a2), (3, .ref c3), (4, V a4)]) (dK D_FP_adOn 28 rfl) rfl e_v3 (ltK rfl) rfl ?_
      refine g_goto (pc := 57) (tgt := 22) (dK D_FP_adOn 29 rfl) rfl ?_
      refine gL_weak (ls' := [(1, V a1), (2, V a2), (3, .ref c3), (4, V a4), (5, V v3)]) (sbc 1 rfl (sbc 2 rfl (sbc 3 rfl (sbc 4 rfl (sbc 0 rfl sbn))))) ?_
      replace h := ih _ h
      exact h ha4 (Vn_in e_v3)
    · replace h := ifP h hc7
      refine g_iload (pc := 42) (j := 3) (dK D_FP_adOn 22 rfl) rfl ?_
      refine g_iloadn (pc := 44) (i0 := 2) (j := 1) (dK D_FP_adOn 23 rfl) rfl rfl ?_
      refine vg_icmp_ne (pc := 45) (t := 51) (dK D_FP_adOn 24 rfl) rfl ha4 ha2 (fun hc6 => ?_) (fun hc6 => ?_)
      · replace h := ifN h hc6
        refine nmE h (fun v4 e_v4 h => ?_)
        refine vg_iinc (pc := 51) (j := 3) (a := a4) (z := 1) (ls2 := [(4, V v4), (1, V a1), (2, V a2), (3, .ref c3), (5, V a5)]) (dK D_FP_adOn 27 rfl) rfl e_v4 (ltK rfl) rfl ?_
        refine nmE h (fun v5 e_v5 h => ?_)
        refine vg_iinc (pc := 54) (j := 4) (a := a5) (z := 1) (ls2 := [(5, V v5), (4, V v4), (1, V a1), (2, V a2), (3, .ref c3)]) (dK D_FP_adOn 28 rfl) rfl e_v5 (ltK rfl) rfl ?_
        refine g_goto (pc := 57) (tgt := 22) (dK D_FP_adOn 29 rfl) rfl ?_
        refine gL_weak (ls' := [(1, V a1), (2, V a2), (3, .ref c3), (4, V v4), (5, V v5)]) (sbc 2 rfl (sbc 3 rfl (sbc 4 rfl (sbc 1 rfl (sbc 0 rfl sbn))))) ?_
        replace h := ih _ h
        exact h (Vn_in e_v4) (Vn_in e_v5)
      · replace h := ifP h hc6
        refine g_iload (pc := 48) (j := 4) (dK D_FP_adOn 25 rfl) rfl ?_
        exact vg_iretI (pc := 50) (r := a5) (dK D_FP_adOn 26 rfl) rfl (leK rfl) (leK rfl) (xf hfl) (hr _ (Option.some.inj h).symm ha5)
def fn_FP_adOn (c0 : Nat) (a1 : Int) (a2 : Int) (S : St) : Option (Nat × Int) := bnO (fn_FP_needPage c0 a1 S) fun p1 => if p1 = 0 then (bnS (lo_FP_adOn_22 a1 a2 (tgt (tgt (tgt c0 3) 0) 0) S FU (0, 0)) (fun p10 => some (0, p10)) fun p9 => some (0, (-1))) else (some (p1, 0))
theorem tf_FP_adOn {E : EV} {X : XT} (hfl : X.2.2.2 = false) {c0 : Nat} (hc0 : HC X 10 c0) {a1 : Int} (ha1 : inR a1) {a2 : Int} (ha2 : inR a2) {S : St} {q : Nat × Int} (h : fn_FP_adOn c0 a1 a2 S = some q) : Ev E M_FP_adOn [.ref c0, V a1, V a2] (WX X S) 1 6 (KT X q.1 S (KI X q.2 S)) := by
  refine Ev.of pn_FP rfl (leK rfl) ?_
  show Go E M_FP_adOn 1 6 0 [(0, .ref c0), (1, V a1), (2, V a2)] [] (WX X S) 0 0 (KT X q.1 S (KI X q.2 S))
  unfold fn_FP_adOn at h
  refine g_aloadn (pc := 0) (i0 := 0) (j := 0) (dK D_FP_adOn 0 rfl) rfl rfl ?_
  refine g_iloadn (pc := 1) (i0 := 1) (j := 1) (dK D_FP_adOn 1 rfl) rfl rfl ?_
  refine bnE h (fun p1 e_p1 h => ?_)
  refine vg_cV (pc := 2) (As := [V a1]) (rest := []) (mc' := 1) (ms' := 6) (dK D_FP_adOn 2 rfl) K_FP_204 (fitK rfl) (ltK rfl) hc0 rfl (leK rfl) (leK rfl) (leK rfl) (tf_FP_needPage hfl hc0 ha1 e_p1) (kcT hfl (fun he11 => kcU ?_) (fun he11 => ⟨rfl, ?_⟩))
  · replace h := ifP h he11
    refine g_aloadn (pc := 5) (i0 := 0) (j := 0) (dK D_FP_adOn 3 rfl) rfl rfl ?_
    refine vg_getO (pc := 6) (ci := 10) (f := 3) (dK D_FP_adOn 4 rfl) q_436 hc0 (ltK rfl) (ltK rfl) rfl ?_
    refine vg_getO (pc := 9) (ci := 4) (f := 0) (dK D_FP_adOn 5 rfl) q_303 (hw_10_3 hc0) (ltK rfl) (ltK rfl) rfl ?_
    refine vg_getO (pc := 12) (ci := 8) (f := 0) (dK D_FP_adOn 6 rfl) q_235 (hw_4_0 (hw_10_3 hc0)) (ltK rfl) (ltK rfl) rfl ?_
    refine g_astoren (pc := 15) (i0 := 3) (ls2 := [(3, .ref (tgt (tgt (tgt c0 3) 0) 0)), (0, .ref c0), (1, V a1), (2, V a2)]) (dK D_FP_adOn 7 rfl) rfl (ltK rfl) rfl ?_
    refine vg_iconst (pc := 16) (dK D_FP_adOn 8 rfl) ?_
    refine g_istore (pc := 17) (ls2 := [(4, V 0), (3, .ref (tgt (tgt (tgt c0 3) 0) 0)), (0, .ref c0), (1, V a1), (2, V a2)]) (dK D_FP_adOn 9 rfl) (ltK rfl) rfl ?_
    refine vg_iconst (pc := 19) (dK D_FP_adOn 10 rfl) ?_
    refine g_istore (pc := 20) (ls2 := [(5, V 0), (4, V 0), (3, .ref (tgt (tgt (tgt c0 3) 0) 0)), (0, .ref c0), (1, V a1), (2, V a2)]) (dK D_FP_adOn 11 rfl) (ltK rfl) rfl ?_
    refine bnSE h (fun p10 e_p10 h => ?_) (fun p9 e_p9 h => ?_)
    · refine gL_weak (ls' := [(1, V a1), (2, V a2), (3, .ref (tgt (tgt (tgt c0 3) 0) 0)), (4, V 0), (5, V 0)]) (sbc 4 rfl (sbc 5 rfl (sbc 2 rfl (sbc 1 rfl (sbc 0 rfl sbn))))) ?_
      refine tl_FP_adOn_22 hfl ha1 ha2 (hw_8_0 (hw_4_0 (hw_10_3 hc0))) (fun _ e => slr e) (fun p e hr_p10 => ?_) FU (0, 0) e_p10 (inRk rfl) (inRk rfl)
      have e := Sum.inl.inj e
      subst e
      exact (by obtain rfl := Option.some.inj h; exact KT_ok ⟨rfl, hr_p10, rfl⟩)
    · refine gL_weak (ls' := [(1, V a1), (2, V a2), (3, .ref (tgt (tgt (tgt c0 3) 0) 0)), (4, V 0), (5, V 0)]) (sbc 4 rfl (sbc 5 rfl (sbc 2 rfl (sbc 1 rfl (sbc 0 rfl sbn))))) ?_
      refine tl_FP_adOn_22 hfl ha1 ha2 (hw_8_0 (hw_4_0 (hw_10_3 hc0))) (fun p e => ?_) (fun _ e => srl e) FU (0, 0) e_p9 (inRk rfl) (inRk rfl)
      have e := Sum.inr.inj e
      subst e
      refine vg_iconst (pc := 60) (dK D_FP_adOn 30 rfl) ?_
      exact vg_iretI (pc := 61) (r := (-1)) (dK D_FP_adOn 31 rfl) rfl (leK rfl) (leK rfl) (xf hfl) (by obtain rfl := Option.some.inj h; exact KT_ok ⟨rfl, (inRk rfl), rfl⟩)
  · replace h := ifN h he11
    obtain rfl := Option.some.inj h
    exact KT_thr he11
def fn_Bytes_addItem (c0 : Nat) (a1 : Int) (a2 : Int) (S : St) : Option (St) := if (g S c0 1) ≤ 0 then (bnO (fn_Bytes_addByte c0 a1 S) fun p1 => if a2 < 10 then (nm (wr (48 + (a2.tmod 10))) fun v2 => bnO (fn_Bytes_addByte c0 v2 p1) fun p3 => some p3) else (nm (wr (48 + (a2.tdiv 10))) fun v4 => bnO (fn_Bytes_addByte c0 v4 p1) fun p5 => nm (wr (48 + (a2.tmod 10))) fun v6 => bnO (fn_Bytes_addByte c0 v6 p5) fun p7 => some p7)) else (bnO (fn_Bytes_addByte c0 32 S) fun p9 => bnO (fn_Bytes_addByte c0 a1 p9) fun p10 => if a2 < 10 then (nm (wr (48 + (a2.tmod 10))) fun v11 => bnO (fn_Bytes_addByte c0 v11 p10) fun p12 => some p12) else (nm (wr (48 + (a2.tdiv 10))) fun v13 => bnO (fn_Bytes_addByte c0 v13 p10) fun p14 => nm (wr (48 + (a2.tmod 10))) fun v15 => bnO (fn_Bytes_addByte c0 v15 p14) fun p16 => some p16))
theorem tf_Bytes_addItem {E : EV} {X : XT} {c0 : Nat} (hc0 : HC X 1 c0) {a1 : Int} (ha1 : inR a1) {a2 : Int} (ha2 : inR a2) {S : St} {q : St} (h : fn_Bytes_addItem c0 a1 a2 S = some q) : Ev E M_Bytes_addItem [.ref c0, V a1, V a2] (WX X S) 0 0 (KU X q) := by
  refine Ev.of pn_Bytes rfl (leK rfl) ?_
  show Go E M_Bytes_addItem 0 0 0 [(0, .ref c0), (1, V a1), (2, V a2)] [] (WX X S) 0 0 (KU X q)
  unfold fn_Bytes_addItem at h
  refine g_aloadn (pc := 0) (i0 := 0) (j := 0) (dK D_Bytes_addItem 0 rfl) rfl rfl ?_
  refine vg_getI (pc := 1) (ci := 1) (f := 1) (dK D_Bytes_addItem 1 rfl) q_60 hc0 (ltK rfl) (ltK rfl) rfl ?_
  refine vg_if_le (pc := 4) (t := 13) (dK D_Bytes_addItem 2 rfl) rfl (g_in _ _ _) (fun hc18 => ?_) (fun hc18 => ?_)
  · replace h := ifP h hc18
    refine g_aloadn (pc := 13) (i0 := 0) (j := 0) (dK D_Bytes_addItem 6 rfl) rfl rfl ?_
    refine g_iloadn (pc := 14) (i0 := 1) (j := 1) (dK D_Bytes_addItem 7 rfl) rfl rfl ?_
    refine bnE h (fun p1 e_p1 h => ?_)
    refine vg_cV (pc := 15) (As := [V a1]) (rest := []) (mc' := 0) (ms' := 0) (dK D_Bytes_addItem 8 rfl) K_Bytes_19 (fitK rfl) (ltK rfl) hc0 rfl (leK rfl) (leK rfl) (leK rfl) (tf_Bytes_addByte hc0 ha1 e_p1) (kcU ?_)
    refine g_iloadn (pc := 18) (i0 := 2) (j := 2) (dK D_Bytes_addItem 9 rfl) rfl rfl ?_
    refine vg_bipush (pc := 19) (dK D_Bytes_addItem 10 rfl) rfl ?_
    refine vg_icmp_lt (pc := 21) (t := 35) (dK D_Bytes_addItem 11 rfl) rfl ha2 (inRk rfl) (fun hc8 => ?_) (fun hc8 => ?_)
    · replace h := ifP h hc8
      refine g_aloadn (pc := 35) (i0 := 0) (j := 0) (dK D_Bytes_addItem 19 rfl) rfl rfl ?_
      refine vg_bipush (pc := 36) (dK D_Bytes_addItem 20 rfl) rfl ?_
      refine g_iloadn (pc := 38) (i0 := 2) (j := 2) (dK D_Bytes_addItem 21 rfl) rfl rfl ?_
      refine vg_bipush (pc := 39) (dK D_Bytes_addItem 22 rfl) rfl ?_
      refine vg_irem (pc := 41) (dK D_Bytes_addItem 23 rfl) ha2 (inRk rfl) (by decide) ?_
      refine vg_iadd (pc := 42) (dK D_Bytes_addItem 24 rfl) ?_
      refine nmE h (fun v2 e_v2 h => ?_)
      refine gtop e_v2 ?_
      refine bnE h (fun p3 e_p3 h => ?_)
      refine vg_cV (pc := 43) (As := [V v2]) (rest := []) (mc' := 0) (ms' := 0) (dK D_Bytes_addItem 25 rfl) K_Bytes_19 (fitK rfl) (ltK rfl) hc0 rfl (leK rfl) (leK rfl) (leK rfl) (tf_Bytes_addByte hc0 (Vn_in e_v2) e_p3) (kcU ?_)
      exact g_return (pc := 46) (dK D_Bytes_addItem 26 rfl) rfl (leK rfl) (leK rfl) (fun _ => rfl) (by obtain rfl := Option.some.inj h; exact ⟨rfl, rfl⟩)
    · replace h := ifN h hc8
      refine g_aloadn (pc := 24) (i0 := 0) (j := 0) (dK D_Bytes_addItem 12 rfl) rfl rfl ?_
      refine vg_bipush (pc := 25) (dK D_Bytes_addItem 13 rfl) rfl ?_
      refine g_iloadn (pc := 27) (i0 := 2) (j := 2) (dK D_Bytes_addItem 14 rfl) rfl rfl ?_
      refine vg_bipush (pc := 28) (dK D_Bytes_addItem 15 rfl) rfl ?_
      refine vg_idiv (pc := 30) (dK D_Bytes_addItem 16 rfl) ha2 (inRk rfl) (by decide) ?_
      refine vg_iadd (pc := 31) (dK D_Bytes_addItem 17 rfl) ?_
      refine nmE h (fun v4 e_v4 h => ?_)
      refine gtop e_v4 ?_
      refine bnE h (fun p5 e_p5 h => ?_)
      refine vg_cV (pc := 32) (As := [V v4]) (rest := []) (mc' := 0) (ms' := 0) (dK D_Bytes_addItem 18 rfl) K_Bytes_19 (fitK rfl) (ltK rfl) hc0 rfl (leK rfl) (leK rfl) (leK rfl) (tf_Bytes_addByte hc0 (Vn_in e_v4) e_p5) (kcU ?_)
      refine g_aloadn (pc := 35) (i0 := 0) (j := 0) (dK D_Bytes_addItem 19 rfl) rfl rfl ?_
      refine vg_bipush (pc := 36) (dK D_Bytes_addItem 20 rfl) rfl ?_
      refine g_iloadn (pc := 38) (i0 := 2) (j := 2) (dK D_Bytes_addItem 21 rfl) rfl rfl ?_
      refine vg_bipush (pc := 39) (dK D_Bytes_addItem 22 rfl) rfl ?_
      refine vg_irem (pc := 41) (dK D_Bytes_addItem 23 rfl) ha2 (inRk rfl) (by decide) ?_
      refine vg_iadd (pc := 42) (dK D_Bytes_addItem 24 rfl) ?_
      refine nmE h (fun v6 e_v6 h => ?_)
      refine gtop e_v6 ?_
      refine bnE h (fun p7 e_p7 h => ?_)
      refine vg_cV (pc := 43) (As := [V v6]) (rest := []) (mc' := 0) (ms' := 0) (dK D_Bytes_addItem 25 rfl) K_Bytes_19 (fitK rfl) (ltK rfl) hc0 rfl (leK rfl) (leK rfl) (leK rfl) (tf_Bytes_addByte hc0 (Vn_in e_v6) e_p7) (kcU ?_)
      exact g_return (pc := 46) (dK D_Bytes_addItem 26 rfl) rfl (leK rfl) (leK rfl) (fun _ => rfl) (by obtain rfl := Option.some.inj h; exact ⟨rfl, rfl⟩)
  · replace h := ifN h hc18
    refine g_aloadn (pc := 7) (i0 := 0) (j := 0) (dK D_Bytes_addItem 3 rfl) rfl rfl ?_
    refine vg_bipush (pc := 8) (dK D_Bytes_addItem 4 rfl) rfl ?_
    refine bnE h (fun p9 e_p9 h => ?_)
    refine vg_cV (pc := 10) (As := [V 32]) (rest := []) (mc' := 0) (ms' := 0) (dK D_Bytes_addItem 5 rfl) K_Bytes_19 (fitK rfl) (ltK rfl) hc0 rfl (leK rfl) (leK rfl) (leK rfl) (tf_Bytes_addByte hc0 (inRk rfl) e_p9) (kcU ?_)
    refine g_aloadn (pc := 13) (i0 := 0) (j := 0) (dK D_Bytes_addItem 6 rfl) rfl rfl ?_
    refine g_iloadn (pc := 14) (i0 := 1) (j := 1) (dK D_Bytes_addItem 7 rfl) rfl rfl ?_
    refine bnE h (fun p10 e_p10 h => ?_)
    refine vg_cV (pc := 15) (As := [V a1]) (rest := []) (mc' := 0) (ms' := 0) (dK D_Bytes_addItem 8 rfl) K_Bytes_19 (fitK rfl) (ltK rfl) hc0 rfl (leK rfl) (leK rfl) (leK rfl) (tf_Bytes_addByte hc0 ha1 e_p10) (kcU ?_)
    refine g_iloadn (pc := 18) (i0 := 2) (j := 2) (dK D_Bytes_addItem 9 rfl) rfl rfl ?_
    refine vg_bipush (pc := 19) (dK D_Bytes_addItem 10 rfl) rfl ?_
    refine vg_icmp_lt (pc := 21) (t := 35) (dK D_Bytes_addItem 11 rfl) rfl ha2 (inRk rfl) (fun hc17 => ?_) (fun hc17 => ?_)
    · replace h := ifP h hc17
      refine g_aloadn (pc := 35) (i0 := 0) (j := 0) (dK D_Bytes_addItem 19 rfl) rfl rfl ?_
      refine vg_bipush (pc := 36) (dK D_Bytes_addItem 20 rfl) rfl ?_
      refine g_iloadn (pc := 38) (i0 := 2) (j := 2) (dK D_Bytes_addItem 21 rfl) rfl rfl ?_
      refine vg_bipush (pc := 39) (dK D_Bytes_addItem 22 rfl) rfl ?_
      refine vg_irem (pc := 41) (dK D_Bytes_addItem 23 rfl) ha2 (inRk rfl) (by decide) ?_
      refine vg_iadd (pc := 42) (dK D_Bytes_addItem 24 rfl) ?_
      refine nmE h (fun v11 e_v11 h => ?_)
      refine gtop e_v11 ?_
      refine bnE h (fun p12 e_p12 h => ?_)
      refine vg_cV (pc := 43) (As := [V v11]) (rest := []) (mc' := 0) (ms' := 0) (dK D_Bytes_addItem 25 rfl) K_Bytes_19 (fitK rfl) (ltK rfl) hc0 rfl (leK rfl) (leK rfl) (leK rfl) (tf_Bytes_addByte hc0 (Vn_in e_v11) e_p12) (kcU ?_)
      exact g_return (pc := 46) (dK D_Bytes_addItem 26 rfl) rfl (leK rfl) (leK rfl) (fun _ => rfl) (by obtain rfl := Option.some.inj h; exact ⟨rfl, rfl⟩)
    · replace h := ifN h hc17
      refine g_aloadn (pc := 24) (i0 := 0) (j := 0) (dK D_Bytes_addItem 12 rfl) rfl rfl ?_
      refine vg_bipush (pc := 25) (dK D_Bytes_addItem 13 rfl) rfl ?_
      refine g_iloadn (pc := 27) (i0 := 2) (j := 2) (dK D_Bytes_addItem 14 rfl) rfl rfl ?_
      refine vg_bipush (pc := 28) (dK D_Bytes_addItem 15 rfl) rfl ?_
      refine vg_idiv (pc := 30) (dK D_Bytes_addItem 16 rfl) ha2 (inRk rfl) (by decide) ?_
      refine vg_iadd (pc := 31) (dK D_Bytes_addItem 17 rfl) ?_
      refine nmE h (fun v13 e_v13 h => ?_)
      refine gtop e_v13 ?_
      refine bnE h (fun p14 e_p14 h => ?_)
      refine vg_cV (pc := 32) (As := [V v13]) (rest := []) (mc' := 0) (ms' := 0) (dK D_Bytes_addItem 18 rfl) K_Bytes_19 (fitK rfl) (ltK rfl) hc0 rfl (leK rfl) (leK rfl) (leK rfl) (tf_Bytes_addByte hc0 (Vn_in e_v13) e_p14) (kcU ?_)
      refine g_aloadn (pc := 35) (i0 := 0) (j := 0) (dK D_Bytes_addItem 19 rfl) rfl rfl ?_
      refine vg_bipush (pc := 36) (dK D_Bytes_addItem 20 rfl) rfl ?_
      refine g_iloadn (pc := 38) (i0 := 2) (j := 2) (dK D_Bytes_addItem 21 rfl) rfl rfl ?_
      refine vg_bipush (pc := 39) (dK D_Bytes_addItem 22 rfl) rfl ?_
      refine vg_irem (pc := 41) (dK D_Bytes_addItem 23 rfl) ha2 (inRk rfl) (by decide) ?_
      refine vg_iadd (pc := 42) (dK D_Bytes_addItem 24 rfl) ?_
      refine nmE h (fun v15 e_v15 h => ?_)
      refine gtop e_v15 ?_
      refine bnE h (fun p16 e_p16 h => ?_)
      refine vg_cV (pc := 43) (As := [V v15]) (rest := []) (mc' := 0) (ms' := 0) (dK D_Bytes_addItem 25 rfl) K_Bytes_19 (fitK rfl) (ltK rfl) hc0 rfl (leK rfl) (leK rfl) (leK rfl) (tf_Bytes_addByte hc0 (Vn_in e_v15) e_p16) (kcU ?_)
      exact g_return (pc := 46) (dK D_Bytes_addItem 26 rfl) rfl (leK rfl) (leK rfl) (fun _ => rfl) (by obtain rfl := Option.some.inj h; exact ⟨rfl, rfl⟩)
def lb_FP_describe_54 (c0 : Nat) (a1 : Int) (c2 : Nat) (go : Int × St → Option (St)) (a3 : Int) (S : St) : Option (St) := if (g S (tgt c2 0) 7) ≤ a3 then (some S) else (if 0 ≤ a3 ∧ a3 < 40 then (if (g S (tgt (tgt c2 0) 6) a3.toNat) = a1 then (bnO (fn_Bytes_addItem (tgt c0 5) 97 a3 S) fun p6 => nm (wr (a3 + 1)) fun v7 => go (v7, p6)) else (nm (wr (a3 + 1)) fun v5 => go (v5, S))) else none)
def lo_FP_describe_54 (c0 : Nat) (a1 : Int) (c2 : Nat) : Nat → Int × St → Option (St) := lp fun go p => lb_FP_describe_54 c0 a1 c2 go p.1 p.2
theorem tl_FP_describe_54 {E : EV} {X : XT} (hfl : X.2.2.2 = false) {c0 : Nat} (hc0 : HC X 10 c0) {a1 : Int} (ha1 : inR a1) {c2 : Nat} (hc2 : HC X 8 c2) {K : RK → PS → Prop} {q : St} (hx : Go E M_FP_describe 1 6 94 [(0, .ref c0), (1, V a1), (2, .ref c2)] [] (WX X q) 1 6 K) : ∀ n a, lo_FP_describe_54 c0 a1 c2 n a = some q → inR a.1 → Go E M_FP_describe 1 6 54 [(0, .ref c0), (1, V a1), (2, .ref c2), (3, V a.1)] [] (WX X a.2) 1 6 K := by
  refine lp_ind (P := fun a : Int × St => inR a.1 → Go E M_FP_describe 1 6 54 [(0, .ref c0), (1, V a1), (2, .ref c2), (3, V a.1)] [] (WX X a.2) 1 6 K) (fun go ih a h => ?_)
  obtain ⟨a3, S⟩ := a
  intro ha3
  show Go E M_FP_describe 1 6 54 [(0, .ref c0), (1, V a1), (2, .ref c2), (3, V a3)] [] (WX X S) 1 6 K
  replace h : lb_FP_describe_54 c0 a1 c2 go a3 S = some q := h
  unfold lb_FP_describe_54 at h
  refine g_iloadn (pc := 54) (i0 := 3) (j := 3) (dK D_FP_describe_0 29 rfl) rfl rfl ?_
  refine g_aloadn (pc := 55) (i0 := 2) (j := 2) (dK D_FP_describe_0 30 rfl) rfl rfl ?_
  refine vg_getO (pc := 56) (ci := 8) (f := 0) (dK D_FP_describe_0 31 rfl) q_235 hc2 (ltK rfl) (ltK rfl) rfl ?_
  refine vg_getI (pc := 59) (ci := 0) (f := 7) (dK D_FP_describe_0 32 rfl) q_120 (hw_8_0 hc2) (ltK rfl) (ltK rfl) rfl ?_
  refine vg_icmp_ge (pc := 62) (t := 94) (dK D_FP_describe_0 33 rfl) rfl ha3 (g_in _ _ _) (fun hc9 => ?_) (fun hc9 => ?_)
  · replace h := ifP h hc9
    obtain rfl := Option.some.inj h
    refine gL_weak (ls' := [(0, .ref c0), (1, V a1), (2, .ref c2)]) (sbc 0 rfl (sbc 1 rfl (sbc 2 rfl sbn))) ?_
    exact hx 
  · replace h := ifN h hc9
    refine g_aloadn (pc := 65) (i0 := 2) (j := 2) (dK D_FP_describe_0 34 rfl) rfl rfl ?_
    refine vg_getO (pc := 66) (ci := 8) (f := 0) (dK D_FP_describe_0 35 rfl) q_235 hc2 (ltK rfl) (ltK rfl) rfl ?_
    refine vg_getA (pc := 69) (ci := 0) (f := 6) (dK D_FP_describe_0 36 rfl) q_114 (hw_8_0 hc2) (ltK rfl) (ltK rfl) rfl ?_
    refine g_iloadn (pc := 72) (i0 := 3) (j := 3) (dK D_FP_describe_0 37 rfl) rfl rfl ?_
    refine gdE h (fun hi4 h => ?_)
    refine vg_iaload (pc := 73) (j := a3.toNat) (dK D_FP_describe_0 38 rfl) (hw_0_6 (hw_8_0 hc2)) rfl hi4 rfl ?_
    refine g_iloadn (pc := 74) (i0 := 1) (j := 1) (dK D_FP_describe_0 39 rfl) rfl rfl ?_
    refine vg_icmp_ne (pc := 75) (t := 88) (dK D_FP_describe_0 40 rfl) rfl (g_in _ _ _) ha1 (fun hc8 => ?_) (fun hc8 => ?_)
    · replace h := ifN h hc8
      refine nmE h (fun v5 e_v5 h => ?_)
      refine vg_iinc (pc := 88) (j := 3) (a := a3) (z := 1) (ls2 := [(3, V v5), (0, .ref c0), (1, V a1), (2, .ref c2)]) (dK D_FP_describe_0 46 rfl) rfl e_v5 (ltK rfl) rfl ?_
      refine g_goto (pc := 91) (tgt := 54) (dK D_FP_describe_0 47 rfl) rfl ?_
      refine gL_weak (ls' := [(0, .ref c0), (1, V a1), (2, .ref c2), (3, V v5)]) (sbc 1 rfl (sbc 2 rfl (sbc 3 rfl (sbc 0 rfl sbn)))) ?_
      replace h := ih _ h
      exact h (Vn_in e_v5)
    · replace h := ifP h hc8
      refine g_aloadn (pc := 78) (i0 := 0) (j := 0) (dK D_FP_describe_0 41 rfl) rfl rfl ?_
      refine vg_getO (pc := 79) (ci := 10) (f := 5) (dK D_FP_describe_0 42 rfl) q_438 hc0 (ltK rfl) (ltK rfl) rfl ?_
      refine vg_bipush (pc := 82) (dK D_FP_describe_0 43 rfl) rfl ?_
      refine g_iloadn (pc := 84) (i0 := 3) (j := 3) (dK D_FP_describe_0 44 rfl) rfl rfl ?_
      refine bnE h (fun p6 e_p6 h => ?_)
      refine vg_cV (pc := 85) (As := [V 97, V a3]) (rest := []) (mc' := 0) (ms' := 0) (dK D_FP_describe_0 45 rfl) K_FP_351 (fitK rfl) (ltK rfl) (hw_10_5 hc0) rfl (leK rfl) (leK rfl) (leK rfl) (tf_Bytes_addItem (hw_10_5 hc0) (inRk rfl) ha3 e_p6) (kcU ?_)
      refine nmE h (fun v7 e_v7 h => ?_)
      refine vg_iinc (pc := 88) (j := 3) (a := a3) (z := 1) (ls2 := [(3, V v7), (0, .ref c0), (1, V a1), (2, .ref c2)]) (dK D_FP_describe_0 46 rfl) rfl e_v7 (ltK rfl) rfl ?_
      refine g_goto (pc := 91) (tgt := 54) (dK D_FP_describe_0 47 rfl) rfl ?_
      refine gL_weak (ls' := [(0, .ref c0), (1, V a1), (2, .ref c2), (3, V v7)]) (sbc 1 rfl (sbc 2 rfl (sbc 3 rfl (sbc 0 rfl sbn)))) ?_
      replace h := ih _ h
      exact h (Vn_in e_v7)
def lb_FP_describe_96 (c0 : Nat) (a1 : Int) (c2 : Nat) (go : Int × St → Option (St)) (a3 : Int) (S : St) : Option (St) := if (g S (tgt c2 2) 2) ≤ a3 then (some S) else (if 0 ≤ a3 ∧ a3 < 8 then (if (g S (tgt (tgt c2 2) 1) a3.toNat) = a1 then (bnO (fn_Bytes_addItem (tgt c0 5) 98 a3 S) fun p13 => nm (wr (a3 + 1)) fun v14 => go (v14, p13)) else (nm (wr (a3 + 1)) fun v12 => go (v12, S))) else none)
def lo_FP_describe_96 (c0 : Nat) (a1 : Int) (c2 : Nat) : Nat → Int × St → Option (St) := lp fun go p => lb_FP_describe_96 c0 a1 c2 go p.1 p.2
theorem tl_FP_describe_96 {E : EV} {X : XT} (hfl : X.2.2.2 = false) {c0 : Nat} (hc0 : HC X 10 c0) {a1 : Int} (ha1 : inR a1) {c2 : Nat} (hc2 : HC X 8 c2) {K : RK → PS → Prop} {q : St} (hx : Go E M_FP_describe 1 6 136 [(0, .ref c0), (1, V a1)] [] (WX X q) 1 6 K) : ∀ n a, lo_FP_describe_96 c0 a1 c2 n a = some q → inR a.1 → Go E M_FP_describe 1 6 96 [(0, .ref c0), (1, V a1), (2, .ref c2), (3, V a.1)] [] (WX X a.2) 1 6 K := by
  refine lp_ind (P := fun a : Int × St => inR a.1 → Go E M_FP_describe 1 6 96 [(0, .ref c0), (1, V a1), (2, .ref c2), (3, V a.1)] [] (WX X a.2) 1 6 K) (fun go ih a h => ?_)
  obtain ⟨a3, S⟩ := a
  intro ha3
  show Go E M_FP_describe 1 6 96 [(0, .ref c0), (1, V a1), (2, .ref c2), (3, V a3)] [] (WX X S) 1 6 K
  replace h : lb_FP_describe_96 c0 a1 c2 go a3 S = some q := h
  unfold lb_FP_describe_96 at h
  refine g_iloadn (pc := 96) (i0 := 3) (j := 3) (dK D_FP_describe_1 0 rfl) rfl rfl ?_
  refine g_aloadn (pc := 97) (i0 := 2) (j := 2) (dK D_FP_describe_1 1 rfl) rfl rfl ?_
  refine vg_getO (pc := 98) (ci := 8) (f := 2) (dK D_FP_describe_1 2 rfl) q_243 hc2 (ltK rfl) (ltK rfl) rfl ?_
  refine vg_getI (pc := 101) (ci := 7) (f := 2) (dK D_FP_describe_1 3 rfl) q_196 (hw_8_2 hc2) (ltK rfl) (ltK rfl) rfl ?_
  refine vg_icmp_ge (pc := 104) (t := 136) (dK D_FP_describe_1 4 rfl) rfl ha3 (g_in _ _ _) (fun hc16 => ?_) (fun hc16 => ?_)
  · replace h := ifP h hc16
    obtain rfl := Option.some.inj h
    refine gL_weak (ls' := [(0, .ref c0), (1, V a1)]) (sbc 0 rfl (sbc 1 rfl sbn)) ?_
    exact hx 
  · replace h := ifN h hc16
    refine g_aloadn (pc := 107) (i0 := 2) (j := 2) (dK D_FP_describe_1 5 rfl) rfl rfl ?_
    refine vg_getO (pc := 108) (ci := 8) (f := 2) (dK D_FP_describe_1 6 rfl) q_243 hc2 (ltK rfl) (ltK rfl) rfl ?_
    refine vg_getA (pc := 111) (ci := 7) (f := 1) (dK D_FP_describe_1 7 rfl) q_193 (hw_8_2 hc2) (ltK rfl) (ltK rfl) rfl ?_
    refine g_iloadn (pc := 114) (i0 := 3) (j := 3) (dK D_FP_describe_1 8 rfl) rfl rfl ?_
    refine gdE h (fun hi11 h => ?_)
    refine vg_iaload (pc := 115) (j := a3.toNat) (dK D_FP_describe_1 9 rfl) (hw_7_1 (hw_8_2 hc2)) rfl hi11 rfl ?_
    refine g_iloadn (pc := 116) (i0 := 1) (j := 1) (dK D_FP_describe_1 10 rfl) rfl rfl ?_
    refine vg_icmp_ne (pc := 117) (t := 130) (dK D_FP_describe_1 11 rfl) rfl (g_in _ _ _) ha1 (fun hc15 => ?_) (fun hc15 => ?_)
    · replace h := ifN h hc15
      refine nmE h (fun v12 e_v12 h => ?_)
      refine vg_iinc (pc := 130) (j := 3) (a := a3) (z := 1) (ls2 := [(3, V v12), (0, .ref c0), (1, V a1), (2, .ref c2)]) (dK D_FP_describe_1 17 rfl) rfl e_v12 (ltK rfl) rfl ?_
      refine g_goto (pc := 133) (tgt := 96) (dK D_FP_describe_1 18 rfl) rfl ?_
      refine gL_weak (ls' := [(0, .ref c0), (1, V a1), (2, .ref c2), (3, V v12)]) (sbc 1 rfl (sbc 2 rfl (sbc 3 rfl (sbc 0 rfl sbn)))) ?_
      replace h := ih _ h
      exact h (Vn_in e_v12)
    · replace h := ifP h hc15
      refine g_aloadn (pc := 120) (i0 := 0) (j := 0) (dK D_FP_describe_1 12 rfl) rfl rfl ?_
      refine vg_getO (pc := 121) (ci := 10) (f := 5) (dK D_FP_describe_1 13 rfl) q_438 hc0 (ltK rfl) (ltK rfl) rfl ?_
      refine vg_bipush (pc := 124) (dK D_FP_describe_1 14 rfl) rfl ?_
      refine g_iloadn (pc := 126) (i0 := 3) (j := 3) (dK D_FP_describe_1 15 rfl) rfl rfl ?_
      refine bnE h (fun p13 e_p13 h => ?_)
      refine vg_cV (pc := 127) (As := [V 98, V a3]) (rest := []) (mc' := 0) (ms' := 0) (dK D_FP_describe_1 16 rfl) K_FP_351 (fitK rfl) (ltK rfl) (hw_10_5 hc0) rfl (leK rfl) (leK rfl) (leK rfl) (tf_Bytes_addItem (hw_10_5 hc0) (inRk rfl) ha3 e_p13) (kcU ?_)
      refine nmE h (fun v14 e_v14 h => ?_)
      refine vg_iinc (pc := 130) (j := 3) (a := a3) (z := 1) (ls2 := [(3, V v14), (0, .ref c0), (1, V a1), (2, .ref c2)]) (dK D_FP_describe_1 17 rfl) rfl e_v14 (ltK rfl) rfl ?_
      refine g_goto (pc := 133) (tgt := 96) (dK D_FP_describe_1 18 rfl) rfl ?_
      refine gL_weak (ls' := [(0, .ref c0), (1, V a1), (2, .ref c2), (3, V v14)]) (sbc 1 rfl (sbc 2 rfl (sbc 3 rfl (sbc 0 rfl sbn)))) ?_
      replace h := ih _ h
      exact h (Vn_in e_v14)
def fn_FP_describe (c0 : Nat) (a1 : Int) (S : St) : Option (Nat × Int × St) := bnO (fn_FP_needPage c0 a1 S) fun p1 => if p1 = 0 then (nm (u S (tgt c0 5) 1 0) fun S2 => if 0 ≤ a1 ∧ a1 < 65 then (if (g S2 (tgt (tgt c0 3) 6) a1.toNat) = (-1) then (bnO (lo_FP_describe_54 c0 a1 (tgt (tgt c0 3) 0) FU (0, S2)) fun p10 => bnO (lo_FP_describe_96 c0 a1 (tgt (tgt c0 3) 0) FU (0, p10)) fun p17 => if (g p17 (tgt (tgt c0 3) 5) a1.toNat) ≤ 0 then (some (0, (g p17 (tgt c0 5) 1), p17)) else (bnO (fn_Bytes_addItem (tgt c0 5) 43 (g p17 (tgt (tgt c0 3) 5) a1.toNat) p17) fun p18 => some (0, (g p18 (tgt c0 5) 1), p18))) else (bnO (fn_Bytes_addItem (tgt c0 5) 115 (g S2 (tgt (tgt c0 3) 6) a1.toNat) S2) fun p20 => bnO (lo_FP_describe_54 c0 a1 (tgt (tgt c0 3) 0) FU (0, p20)) fun p21 => bnO (lo_FP_describe_96 c0 a1 (tgt (tgt c0 3) 0) FU (0, p21)) fun p22 => if (g p22 (tgt (tgt c0 3) 5) a1.toNat) ≤ 0 then (some (0, (g p22 (tgt c0 5) 1), p22)) else (bnO (fn_Bytes_addItem (tgt c0 5) 43 (g p22 (tgt (tgt c0 3) 5) a1.toNat) p22) fun p23 => some (0, (g p23 (tgt c0 5) 1), p23)))) else none) else (some (p1, 0, S))
theorem tf_FP_describe {E : EV} {X : XT} (hfl : X.2.2.2 = false) {c0 : Nat} (hc0 : HC X 10 c0) {a1 : Int} (ha1 : inR a1) {S : St} {q : Nat × Int × St} (h : fn_FP_describe c0 a1 S = some q) : Ev E M_FP_describe [.ref c0, V a1] (WX X S) 1 6 (KT X q.1 q.2.2 (KI X q.2.1 q.2.2)) := by
  refine Ev.of pn_FP rfl (leK rfl) ?_
  show Go E M_FP_describe 1 6 0 [(0, .ref c0), (1, V a1)] [] (WX X S) 0 0 (KT X q.1 q.2.2 (KI X q.2.1 q.2.2))
  unfold fn_FP_describe at h
  refine g_aloadn (pc := 0) (i0 := 0) (j := 0) (dK D_FP_describe_0 0 rfl) rfl rfl ?_
  refine g_iloadn (pc := 1) (i0 := 1) (j := 1) (dK D_FP_describe_0 1 rfl) rfl rfl ?_
  refine bnE h (fun p1 e_p1 h => ?_)
  refine vg_cV (pc := 2) (As := [V a1]) (rest := []) (mc' := 1) (ms' := 6) (dK D_FP_describe_0 2 rfl) K_FP_204 (fitK rfl) (ltK rfl) hc0 rfl (leK rfl) (leK rfl) (leK rfl) (tf_FP_needPage hfl hc0 ha1 e_p1) (kcT hfl (fun he26 => kcU ?_) (fun he26 => ⟨rfl, ?_⟩))
  · replace h := ifP h he26
    refine g_aloadn (pc := 5) (i0 := 0) (j := 0) (dK D_FP_describe_0 3 rfl) rfl rfl ?_
    refine vg_getO (pc := 6) (ci := 10) (f := 3) (dK D_FP_describe_0 4 rfl) q_436 hc0 (ltK rfl) (ltK rfl) rfl ?_
    refine vg_getO (pc := 9) (ci := 4) (f := 0) (dK D_FP_describe_0 5 rfl) q_303 (hw_10_3 hc0) (ltK rfl) (ltK rfl) rfl ?_
    refine g_astoren (pc := 12) (i0 := 2) (ls2 := [(2, .ref (tgt (tgt c0 3) 0)), (0, .ref c0), (1, V a1)]) (dK D_FP_describe_0 6 rfl) rfl (ltK rfl) rfl ?_
    refine g_aloadn (pc := 13) (i0 := 0) (j := 1) (dK D_FP_describe_0 7 rfl) rfl rfl ?_
    refine vg_getO (pc := 14) (ci := 10) (f := 5) (dK D_FP_describe_0 8 rfl) q_438 hc0 (ltK rfl) (ltK rfl) rfl ?_
    refine vg_iconst (pc := 17) (dK D_FP_describe_0 9 rfl) ?_
    refine nmE h (fun S2 e_S2 h => ?_)
    refine vg_putI (pc := 18) (ci := 1) (f := 1) (z := 0) (dK D_FP_describe_0 10 rfl) q_61 (hw_10_5 hc0) (ltK rfl) (ltK rfl) rfl rfl e_S2 ?_
    refine g_aloadn (pc := 21) (i0 := 0) (j := 1) (dK D_FP_describe_0 11 rfl) rfl rfl ?_
    refine vg_getO (pc := 22) (ci := 10) (f := 3) (dK D_FP_describe_0 12 rfl) q_436 hc0 (ltK rfl) (ltK rfl) rfl ?_
    refine vg_getA (pc := 25) (ci := 4) (f := 6) (dK D_FP_describe_0 13 rfl) q_322 (hw_10_3 hc0) (ltK rfl) (ltK rfl) rfl ?_
    refine g_iloadn (pc := 28) (i0 := 1) (j := 2) (dK D_FP_describe_0 14 rfl) rfl rfl ?_
    refine gdE h (fun hi3 h => ?_)
    refine vg_iaload (pc := 29) (j := a1.toNat) (dK D_FP_describe_0 15 rfl) (hw_4_6 (hw_10_3 hc0)) rfl hi3 rfl ?_
    refine vg_iconst (pc := 30) (dK D_FP_describe_0 16 rfl) ?_
    refine vg_icmp_eq (pc := 31) (t := 52) (dK D_FP_describe_0 17 rfl) rfl (g_in _ _ _) (inRk rfl) (fun hc25 => ?_) (fun hc25 => ?_)
    · replace h := ifP h hc25
      refine vg_iconst (pc := 52) (dK D_FP_describe_0 27 rfl) ?_
      refine g_istoren (pc := 53) (i0 := 3) (ls2 := [(3, V 0), (2, .ref (tgt (tgt c0 3) 0)), (0, .ref c0), (1, V a1)]) (dK D_FP_describe_0 28 rfl) rfl (ltK rfl) rfl ?_
      refine bnE h (fun p10 e_p10 h => ?_)
      refine gL_weak (ls' := [(0, .ref c0), (1, V a1), (2, .ref (tgt (tgt c0 3) 0)), (3, V 0)]) (sbc 2 rfl (sbc 3 rfl (sbc 1 rfl (sbc 0 rfl sbn)))) ?_
      refine tl_FP_describe_54 hfl hc0 ha1 (hw_4_0 (hw_10_3 hc0)) ?_ FU (0, S2) e_p10 (inRk rfl)
      refine vg_iconst (pc := 94) (dK D_FP_describe_0 48 rfl) ?_
      refine g_istoren (pc := 95) (i0 := 3) (ls2 := [(3, V 0), (0, .ref c0), (1, V a1), (2, .ref (tgt (tgt c0 3) 0))]) (dK D_FP_describe_0 49 rfl) rfl (ltK rfl) rfl ?_
      refine bnE h (fun p17 e_p17 h => ?_)
      refine gL_weak (ls' := [(0, .ref c0), (1, V a1), (2, .ref (tgt (tgt c0 3) 0)), (3, V 0)]) (sbc 1 rfl (sbc 2 rfl (sbc 3 rfl (sbc 0 rfl sbn)))) ?_
      refine tl_FP_describe_96 hfl hc0 ha1 (hw_4_0 (hw_10_3 hc0)) ?_ FU (0, p10) e_p17 (inRk rfl)
      refine g_aloadn (pc := 136) (i0 := 0) (j := 0) (dK D_FP_describe_1 19 rfl) rfl rfl ?_
      refine vg_getO (pc := 137) (ci := 10) (f := 3) (dK D_FP_describe_1 20 rfl) q_436 hc0 (ltK rfl) (ltK rfl) rfl ?_
      refine vg_getA (pc := 140) (ci := 4) (f := 5) (dK D_FP_describe_1 21 rfl) q_319 (hw_10_3 hc0) (ltK rfl) (ltK rfl) rfl ?_
      refine g_iloadn (pc := 143) (i0 := 1) (j := 1) (dK D_FP_describe_1 22 rfl) rfl rfl ?_
      refine vg_iaload (pc := 144) (j := a1.toNat) (dK D_FP_describe_1 23 rfl) (hw_4_5 (hw_10_3 hc0)) rfl hi3 rfl ?_
      refine vg_if_le (pc := 145) (t := 166) (dK D_FP_describe_1 24 rfl) rfl (g_in _ _ _) (fun hc19 => ?_) (fun hc19 => ?_)
      · replace h := ifP h hc19
        refine g_aloadn (pc := 166) (i0 := 0) (j := 0) (dK D_FP_describe_1 34 rfl) rfl rfl ?_
        refine vg_getO (pc := 167) (ci := 10) (f := 5) (dK D_FP_describe_1 35 rfl) q_438 hc0 (ltK rfl) (ltK rfl) rfl ?_
        refine vg_getI (pc := 170) (ci := 1) (f := 1) (dK D_FP_describe_1 36 rfl) q_61 (hw_10_5 hc0) (ltK rfl) (ltK rfl) rfl ?_
        exact vg_iretI (pc := 173) (r := (g p17 (tgt c0 5) 1)) (dK D_FP_describe_1 37 rfl) rfl (leK rfl) (leK rfl) (xf hfl) (by obtain rfl := Option.some.inj h; exact KT_ok ⟨rfl, (g_in _ _ _), rfl⟩)
      · replace h := ifN h hc19
        refine g_aloadn (pc := 148) (i0 := 0) (j := 0) (dK D_FP_describe_1 25 rfl) rfl rfl ?_
        refine vg_getO (pc := 149) (ci := 10) (f := 5) (dK D_FP_describe_1 26 rfl) q_438 hc0 (ltK rfl) (ltK rfl) rfl ?_
        refine vg_bipush (pc := 152) (dK D_FP_describe_1 27 rfl) rfl ?_
        refine g_aloadn (pc := 154) (i0 := 0) (j := 0) (dK D_FP_describe_1 28 rfl) rfl rfl ?_
        refine vg_getO (pc := 155) (ci := 10) (f := 3) (dK D_FP_describe_1 29 rfl) q_436 hc0 (ltK rfl) (ltK rfl) rfl ?_
        refine vg_getA (pc := 158) (ci := 4) (f := 5) (dK D_FP_describe_1 30 rfl) q_319 (hw_10_3 hc0) (ltK rfl) (ltK rfl) rfl ?_
        refine g_iloadn (pc := 161) (i0 := 1) (j := 1) (dK D_FP_describe_1 31 rfl) rfl rfl ?_
        refine vg_iaload (pc := 162) (j := a1.toNat) (dK D_FP_describe_1 32 rfl) (hw_4_5 (hw_10_3 hc0)) rfl hi3 rfl ?_
        refine bnE h (fun p18 e_p18 h => ?_)
        refine vg_cV (pc := 163) (As := [V 43, V (g p17 (tgt (tgt c0 3) 5) a1.toNat)]) (rest := []) (mc' := 0) (ms' := 0) (dK D_FP_describe_1 33 rfl) K_FP_351 (fitK rfl) (ltK rfl) (hw_10_5 hc0) rfl (leK rfl) (leK rfl) (leK rfl) (tf_Bytes_addItem (hw_10_5 hc0) (inRk rfl) (g_in _ _ _) e_p18) (kcU ?_)
        refine g_aloadn (pc := 166) (i0 := 0) (j := 0) (dK D_FP_describe_1 34 rfl) rfl rfl ?_
        refine vg_getO (pc := 167) (ci := 10) (f := 5) (dK D_FP_describe_1 35 rfl) q_438 hc0 (ltK rfl) (ltK rfl) rfl ?_
        refine vg_getI (pc := 170) (ci := 1) (f := 1) (dK D_FP_describe_1 36 rfl) q_61 (hw_10_5 hc0) (ltK rfl) (ltK rfl) rfl ?_
        exact vg_iretI (pc := 173) (r := (g p18 (tgt c0 5) 1)) (dK D_FP_describe_1 37 rfl) rfl (leK rfl) (leK rfl) (xf hfl) (by obtain rfl := Option.some.inj h; exact KT_ok ⟨rfl, (g_in _ _ _), rfl⟩)
    · replace h := ifN h hc25
      refine g_aloadn (pc := 34) (i0 := 0) (j := 1) (dK D_FP_describe_0 18 rfl) rfl rfl ?_
      refine vg_getO (pc := 35) (ci := 10) (f := 5) (dK D_FP_describe_0 19 rfl) q_438 hc0 (ltK rfl) (ltK rfl) rfl ?_
      refine vg_bipush (pc := 38) (dK D_FP_describe_0 20 rfl) rfl ?_
      refine g_aloadn (pc := 40) (i0 := 0) (j := 1) (dK D_FP_describe_0 21 rfl) rfl rfl ?_
      refine vg_getO (pc := 41) (ci := 10) (f := 3) (dK D_FP_describe_0 22 rfl) q_436 hc0 (ltK rfl) (ltK rfl) rfl ?_
      refine vg_getA (pc := 44) (ci := 4) (f := 6) (dK D_FP_describe_0 23 rfl) q_322 (hw_10_3 hc0) (ltK rfl) (ltK rfl) rfl ?_
      refine g_iloadn (pc := 47) (i0 := 1) (j := 2) (dK D_FP_describe_0 24 rfl) rfl rfl ?_
      refine vg_iaload (pc := 48) (j := a1.toNat) (dK D_FP_describe_0 25 rfl) (hw_4_6 (hw_10_3 hc0)) rfl hi3 rfl ?_
      refine bnE h (fun p20 e_p20 h => ?_)
      refine vg_cV (pc := 49) (As := [V 115, V (g S2 (tgt (tgt c0 3) 6) a1.toNat)]) (rest := []) (mc' := 0) (ms' := 0) (dK D_FP_describe_0 26 rfl) K_FP_351 (fitK rfl) (ltK rfl) (hw_10_5 hc0) rfl (leK rfl) (leK rfl) (leK rfl) (tf_Bytes_addItem (hw_10_5 hc0) (inRk rfl) (g_in _ _ _) e_p20) (kcU ?_)
      refine vg_iconst (pc := 52) (dK D_FP_describe_0 27 rfl) ?_
      refine g_istoren (pc := 53) (i0 := 3) (ls2 := [(3, V 0), (2, .ref (tgt (tgt c0 3) 0)), (0, .ref c0), (1, V a1)]) (dK D_FP_describe_0 28 rfl) rfl (ltK rfl) rfl ?_
      refine bnE h (fun p21 e_p21 h => ?_)
      refine gL_weak (ls' := [(0, .ref c0), (1, V a1), (2, .ref (tgt (tgt c0 3) 0)), (3, V 0)]) (sbc 2 rfl (sbc 3 rfl (sbc 1 rfl (sbc 0 rfl sbn)))) ?_
      refine tl_FP_describe_54 hfl hc0 ha1 (hw_4_0 (hw_10_3 hc0)) ?_ FU (0, p20) e_p21 (inRk rfl)
      refine vg_iconst (pc := 94) (dK D_FP_describe_0 48 rfl) ?_
      refine g_istoren (pc := 95) (i0 := 3) (ls2 := [(3, V 0), (0, .ref c0), (1, V a1), (2, .ref (tgt (tgt c0 3) 0))]) (dK D_FP_describe_0 49 rfl) rfl (ltK rfl) rfl ?_
      refine bnE h (fun p22 e_p22 h => ?_)
      refine gL_weak (ls' := [(0, .ref c0), (1, V a1), (2, .ref (tgt (tgt c0 3) 0)), (3, V 0)]) (sbc 1 rfl (sbc 2 rfl (sbc 3 rfl (sbc 0 rfl sbn)))) ?_
      refine tl_FP_describe_96 hfl hc0 ha1 (hw_4_0 (hw_10_3 hc0)) ?_ FU (0, p21) e_p22 (inRk rfl)
      refine g_aloadn (pc := 136) (i0 := 0) (j := 0) (dK D_FP_describe_1 19 rfl) rfl rfl ?_
      refine vg_getO (pc := 137) (ci := 10) (f := 3) (dK D_FP_describe_1 20 rfl) q_436 hc0 (ltK rfl) (ltK rfl) rfl ?_
      refine vg_getA (pc := 140) (ci := 4) (f := 5) (dK D_FP_describe_1 21 rfl) q_319 (hw_10_3 hc0) (ltK rfl) (ltK rfl) rfl ?_
      refine g_iloadn (pc := 143) (i0 := 1) (j := 1) (dK D_FP_describe_1 22 rfl) rfl rfl ?_
      refine vg_iaload (pc := 144) (j := a1.toNat) (dK D_FP_describe_1 23 rfl) (hw_4_5 (hw_10_3 hc0)) rfl hi3 rfl ?_
      refine vg_if_le (pc := 145) (t := 166) (dK D_FP_describe_1 24 rfl) rfl (g_in _ _ _) (fun hc24 => ?_) (fun hc24 => ?_)
      · replace h := ifP h hc24
        refine g_aloadn (pc := 166) (i0 := 0) (j := 0) (dK D_FP_describe_1 34 rfl) rfl rfl ?_
        refine vg_getO (pc := 167) (ci := 10) (f := 5) (dK D_FP_describe_1 35 rfl) q_438 hc0 (ltK rfl) (ltK rfl) rfl ?_
        refine vg_getI (pc := 170) (ci := 1) (f := 1) (dK D_FP_describe_1 36 rfl) q_61 (hw_10_5 hc0) (ltK rfl) (ltK rfl) rfl ?_
        exact vg_iretI (pc := 173) (r := (g p22 (tgt c0 5) 1)) (dK D_FP_describe_1 37 rfl) rfl (leK rfl) (leK rfl) (xf hfl) (by obtain rfl := Option.some.inj h; exact KT_ok ⟨rfl, (g_in _ _ _), rfl⟩)
      · replace h := ifN h hc24
        refine g_aloadn (pc := 148) (i0 := 0) (j := 0) (dK D_FP_describe_1 25 rfl) rfl rfl ?_
        refine vg_getO (pc := 149) (ci := 10) (f := 5) (dK D_FP_describe_1 26 rfl) q_438 hc0 (ltK rfl) (ltK rfl) rfl ?_
        refine vg_bipush (pc := 152) (dK D_FP_describe_1 27 rfl) rfl ?_
        refine g_aloadn (pc := 154) (i0 := 0) (j := 0) (dK D_FP_describe_1 28 rfl) rfl rfl ?_
        refine vg_getO (pc := 155) (ci := 10) (f := 3) (dK D_FP_describe_1 29 rfl) q_436 hc0 (ltK rfl) (ltK rfl) rfl ?_
        refine vg_getA (pc := 158) (ci := 4) (f := 5) (dK D_FP_describe_1 30 rfl) q_319 (hw_10_3 hc0) (ltK rfl) (ltK rfl) rfl ?_
        refine g_iloadn (pc := 161) (i0 := 1) (j := 1) (dK D_FP_describe_1 31 rfl) rfl rfl ?_
        refine vg_iaload (pc := 162) (j := a1.toNat) (dK D_FP_describe_1 32 rfl) (hw_4_5 (hw_10_3 hc0)) rfl hi3 rfl ?_
        refine bnE h (fun p23 e_p23 h => ?_)
        refine vg_cV (pc := 163) (As := [V 43, V (g p22 (tgt (tgt c0 3) 5) a1.toNat)]) (rest := []) (mc' := 0) (ms' := 0) (dK D_FP_describe_1 33 rfl) K_FP_351 (fitK rfl) (ltK rfl) (hw_10_5 hc0) rfl (leK rfl) (leK rfl) (leK rfl) (tf_Bytes_addItem (hw_10_5 hc0) (inRk rfl) (g_in _ _ _) e_p23) (kcU ?_)
        refine g_aloadn (pc := 166) (i0 := 0) (j := 0) (dK D_FP_describe_1 34 rfl) rfl rfl ?_
        refine vg_getO (pc := 167) (ci := 10) (f := 5) (dK D_FP_describe_1 35 rfl) q_438 hc0 (ltK rfl) (ltK rfl) rfl ?_
        refine vg_getI (pc := 170) (ci := 1) (f := 1) (dK D_FP_describe_1 36 rfl) q_61 (hw_10_5 hc0) (ltK rfl) (ltK rfl) rfl ?_
        exact vg_iretI (pc := 173) (r := (g p23 (tgt c0 5) 1)) (dK D_FP_describe_1 37 rfl) rfl (leK rfl) (leK rfl) (xf hfl) (by obtain rfl := Option.some.inj h; exact KT_ok ⟨rfl, (g_in _ _ _), rfl⟩)
  · replace h := ifN h he26
    obtain rfl := Option.some.inj h
    exact KT_thr he26
def lb_FP_emptiest_11 (c0 : Nat) (a1 : Int) (a3 : Int) (S : St) (go : Int × Int → Option ((Int) ⊕ (Int))) (a2 : Int) (a4 : Int) : Option ((Int) ⊕ (Int)) := if (g S (tgt c0 3) 1) < a4 then (some (.inr a2)) else (if 0 ≤ a4 ∧ a4 < 65 then (if (g S (tgt (tgt c0 3) 5) a4.toNat) = a3 then (if a2 = a1 then (some (.inl a4)) else (nm (wr (a2 + 1)) fun v3 => nm (wr (a4 + 1)) fun v4 => go (v3, v4))) else (nm (wr (a4 + 1)) fun v2 => go (a2, v2))) else none)
def lo_FP_emptiest_11 (c0 : Nat) (a1 : Int) (a3 : Int) (S : St) : Nat → Int × Int → Option ((Int) ⊕ (Int)) := lp fun go p => lb_FP_emptiest_11 c0 a1 a3 S go p.1 p.2
theorem tl_FP_emptiest_11 {E : EV} {X : XT} {c0 : Nat} (hc0 : HC X 10 c0) {a1 : Int} (ha1 : inR a1) {a3 : Int} (ha3 : inR a3) {S : St} {K : RK → PS → Prop} {q : (Int) ⊕ (Int)} (hx : ∀ p, q = .inr p → inR p → Go E M_FP_emptiest 0 0 54 [(0, .ref c0), (1, V a1), (2, V p), (3, V a3)] [] (WX X S) 0 0 K) (hr : ∀ p, q = .inl p → inR p → K (.inl (some (V p))) (WX X S)) : ∀ n a, lo_FP_emptiest_11 c0 a1 a3 S n a = some q → inR a.1 → inR a.2 → Go E M_FP_emptiest 0 0 11 [(0, .ref c0), (1, V a1), (2, V a.1), (3, V a3), (4, V a.2)] [] (WX X S) 0 0 K := by
  refine lp_ind (P := fun a : Int × Int => inR a.1 → inR a.2 → Go E M_FP_emptiest 0 0 11 [(0, .ref c0), (1, V a1), (2, V a.1), (3, V a3), (4, V a.2)] [] (WX X S) 0 0 K) (fun go ih a h => ?_)
  obtain ⟨a2, a4⟩ := a
  intro ha2 ha4
  show Go E M_FP_emptiest 0 0 11 [(0, .ref c0), (1, V a1), (2, V a2), (3, V a3), (4, V a4)] [] (WX X S) 0 0 K
  replace h : lb_FP_emptiest_11 c0 a1 a3 S go a2 a4 = some q := h
  unfold lb_FP_emptiest_11 at h
  refine g_iload (pc := 11) (j := 4) (dK D_FP_emptiest 8 rfl) rfl ?_
  refine g_aloadn (pc := 13) (i0 := 0) (j := 0) (dK D_FP_emptiest 9 rfl) rfl rfl ?_
  refine vg_getO (pc := 14) (ci := 10) (f := 3) (dK D_FP_emptiest 10 rfl) q_436 hc0 (ltK rfl) (ltK rfl) rfl ?_
  refine vg_getI (pc := 17) (ci := 4) (f := 1) (dK D_FP_emptiest 11 rfl) q_307 (hw_10_3 hc0) (ltK rfl) (ltK rfl) rfl ?_
  refine vg_icmp_gt (pc := 20) (t := 54) (dK D_FP_emptiest 12 rfl) rfl ha4 (g_in _ _ _) (fun hc7 => ?_) (fun hc7 => ?_)
  · replace h := ifP h hc7
    refine gL_weak (ls' := [(0, .ref c0), (1, V a1), (2, V a2), (3, V a3)]) (sbc 0 rfl (sbc 1 rfl (sbc 2 rfl (sbc 3 rfl sbn)))) ?_
    exact hx _ (Option.some.inj h).symm ha2
  · replace h := ifN h hc7
    refine g_aloadn (pc := 23) (i0 := 0) (j := 0) (dK D_FP_emptiest 13 rfl) rfl rfl ?_
    refine vg_getO (pc := 24) (ci := 10) (f := 3) (dK D_FP_emptiest 14 rfl) q_436 hc0 (ltK rfl) (ltK rfl) rfl ?_
    refine vg_getA (pc := 27) (ci := 4) (f := 5) (dK D_FP_emptiest 15 rfl) q_319 (hw_10_3 hc0) (ltK rfl) (ltK rfl) rfl ?_
    refine g_iload (pc := 30) (j := 4) (dK D_FP_emptiest 16 rfl) rfl ?_
    refine gdE h (fun hi1 h => ?_)
    refine vg_iaload (pc := 32) (j := a4.toNat) (dK D_FP_emptiest 17 rfl) (hw_4_5 (hw_10_3 hc0)) rfl hi1 rfl ?_
    refine g_iloadn (pc := 33) (i0 := 3) (j := 3) (dK D_FP_emptiest 18 rfl) rfl rfl ?_
    refine vg_icmp_ne (pc := 34) (t := 48) (dK D_FP_emptiest 19 rfl) rfl (g_in _ _ _) ha3 (fun hc6 => ?_) (fun hc6 => ?_)
    · replace h := ifN h hc6
      refine nmE h (fun v2 e_v2 h => ?_)
      refine vg_iinc (pc := 48) (j := 4) (a := a4) (z := 1) (ls2 := [(4, V v2), (0, .ref c0), (1, V a1), (2, V a2), (3, V a3)]) (dK D_FP_emptiest 26 rfl) rfl e_v2 (ltK rfl) rfl ?_
      refine g_goto (pc := 51) (tgt := 11) (dK D_FP_emptiest 27 rfl) rfl ?_
      refine gL_weak (ls' := [(0, .ref c0), (1, V a1), (2, V a2), (3, V a3), (4, V v2)]) (sbc 1 rfl (sbc 2 rfl (sbc 3 rfl (sbc 4 rfl (sbc 0 rfl sbn))))) ?_
      replace h := ih _ h
      exact h ha2 (Vn_in e_v2)
    · replace h := ifP h hc6
      refine g_iloadn (pc := 37) (i0 := 2) (j := 2) (dK D_FP_emptiest 20 rfl) rfl rfl ?_
      refine g_iloadn (pc := 38) (i0 := 1) (j := 1) (dK D_FP_emptiest 21 rfl) rfl rfl ?_
      refine vg_icmp_ne (pc := 39) (t := 45) (dK D_FP_emptiest 22 rfl) rfl ha2 ha1 (fun hc5 => ?_) (fun hc5 => ?_)
      · replace h := ifN h hc5
        refine nmE h (fun v3 e_v3 h => ?_)
        refine vg_iinc (pc := 45) (j := 2) (a := a2) (z := 1) (ls2 := [(2, V v3), (0, .ref c0), (1, V a1), (3, V a3), (4, V a4)]) (dK D_FP_emptiest 25 rfl) rfl e_v3 (ltK rfl) rfl ?_
        refine nmE h (fun v4 e_v4 h => ?_)
        refine vg_iinc (pc := 48) (j := 4) (a := a4) (z := 1) (ls2 := [(4, V v4), (2, V v3), (0, .ref c0), (1, V a1), (3, V a3)]) (dK D_FP_emptiest 26 rfl) rfl e_v4 (ltK rfl) rfl ?_
        refine g_goto (pc := 51) (tgt := 11) (dK D_FP_emptiest 27 rfl) rfl ?_
        refine gL_weak (ls' := [(0, .ref c0), (1, V a1), (2, V v3), (3, V a3), (4, V v4)]) (sbc 2 rfl (sbc 3 rfl (sbc 1 rfl (sbc 4 rfl (sbc 0 rfl sbn))))) ?_
        replace h := ih _ h
        exact h (Vn_in e_v3) (Vn_in e_v4)
      · replace h := ifP h hc5
        refine g_iload (pc := 42) (j := 4) (dK D_FP_emptiest 23 rfl) rfl ?_
        exact vg_iretI (pc := 44) (r := a4) (dK D_FP_emptiest 24 rfl) rfl (leK rfl) (leK rfl) (fun _ => rfl) (hr _ (Option.some.inj h).symm ha4)
def lb_FP_emptiest_4 (c0 : Nat) (a1 : Int) (S : St) (go : Int × Int → Option ((Int) ⊕ (Unit))) (a2 : Int) (a3 : Int) : Option ((Int) ⊕ (Unit)) := if a3 < 0 then (some (.inr ())) else (bnS (lo_FP_emptiest_11 c0 a1 a3 S FU (a2, 1)) (fun p10 => some (.inl p10)) fun p8 => nm (wr (a3 + (-1))) fun v9 => go (p8, v9))
def lo_FP_emptiest_4 (c0 : Nat) (a1 : Int) (S : St) : Nat → Int × Int → Option ((Int) ⊕ (Unit)) := lp fun go p => lb_FP_emptiest_4 c0 a1 S go p.1 p.2
theorem tl_FP_emptiest_4 {E : EV} {X : XT} {c0 : Nat} (hc0 : HC X 10 c0) {a1 : Int} (ha1 : inR a1) {S : St} {K : RK → PS → Prop} {q : (Int) ⊕ (Unit)} (hx : ∀ p, q = .inr p → Go E M_FP_emptiest 0 0 60 [] [] (WX X S) 0 0 K) (hr : ∀ p, q = .inl p → inR p → K (.inl (some (V p))) (WX X S)) : ∀ n a, lo_FP_emptiest_4 c0 a1 S n a = some q → inR a.1 → inR a.2 → Go E M_FP_emptiest 0 0 4 [(0, .ref c0), (1, V a1), (2, V a.1), (3, V a.2)] [] (WX X S) 0 0 K := by
  refine lp_ind (P := fun a : Int × Int => inR a.1 → inR a.2 → Go E M_FP_emptiest 0 0 4 [(0, .ref c0), (1, V a1), (2, V a.1), (3, V a.2)] [] (WX X S) 0 0 K) (fun go ih a h => ?_)
  obtain ⟨a2, a3⟩ := a
  intro ha2 ha3
  show Go E M_FP_emptiest 0 0 4 [(0, .ref c0), (1, V a1), (2, V a2), (3, V a3)] [] (WX X S) 0 0 K
  replace h : lb_FP_emptiest_4 c0 a1 S go a2 a3 = some q := h
  unfold lb_FP_emptiest_4 at h
  refine g_iloadn (pc := 4) (i0 := 3) (j := 3) (dK D_FP_emptiest 4 rfl) rfl rfl ?_
  refine vg_if_lt (pc := 5) (t := 60) (dK D_FP_emptiest 5 rfl) rfl ha3 (fun hc11 => ?_) (fun hc11 => ?_)
  · replace h := ifP h hc11
    refine gL_weak (ls' := []) sbn ?_
    exact hx _ (Option.some.inj h).symm 
  · replace h := ifN h hc11
    refine vg_iconst (pc := 8) (dK D_FP_emptiest 6 rfl) ?_
    refine g_istore (pc := 9) (ls2 := [(4, V 1), (0, .ref c0), (1, V a1), (2, V a2), (3, V a3)]) (dK D_FP_emptiest 7 rfl) (ltK rfl) rfl ?_
    refine bnSE h (fun p10 e_p10 h => ?_) (fun p8 e_p8 h => ?_)
    · refine gL_weak (ls' := [(0, .ref c0), (1, V a1), (2, V a2), (3, V a3), (4, V 1)]) (sbc 1 rfl (sbc 2 rfl (sbc 3 rfl (sbc 4 rfl (sbc 0 rfl sbn))))) ?_
      refine tl_FP_emptiest_11 hc0 ha1 ha3 (fun _ e => slr e) (fun p e hr_p10 => ?_) FU (a2, 1) e_p10 ha2 (inRk rfl)
      have e := Sum.inl.inj e
      subst e
      exact (hr _ (Option.some.inj h).symm hr_p10)
    · refine gL_weak (ls' := [(0, .ref c0), (1, V a1), (2, V a2), (3, V a3), (4, V 1)]) (sbc 1 rfl (sbc 2 rfl (sbc 3 rfl (sbc 4 rfl (sbc 0 rfl sbn))))) ?_
      refine tl_FP_emptiest_11 hc0 ha1 ha3 (fun p e hx2_p8 => ?_) (fun _ e => srl e) FU (a2, 1) e_p8 ha2 (inRk rfl)
      have e := Sum.inr.inj e
      subst e
      refine nmE h (fun v9 e_v9 h => ?_)
      refine vg_iinc (pc := 54) (j := 3) (a := a3) (z := -1) (ls2 := [(3, V v9), (0, .ref c0), (1, V a1), (2, V p8)]) (dK D_FP_emptiest 28 rfl) rfl e_v9 (ltK rfl) rfl ?_
      refine g_goto (pc := 57) (tgt := 4) (dK D_FP_emptiest 29 rfl) rfl ?_
      refine gL_weak (ls' := [(0, .ref c0), (1, V a1), (2, V p8), (3, V v9)]) (sbc 1 rfl (sbc 2 rfl (sbc 3 rfl (sbc 0 rfl sbn)))) ?_
      replace h := ih _ h
      exact h hx2_p8 (Vn_in e_v9)
def fn_FP_emptiest (c0 : Nat) (a1 : Int) (S : St) : Option (Int) := bnS (lo_FP_emptiest_4 c0 a1 S FU (0, 4)) (fun p13 => some p13) fun p12 => some (-1)
theorem tf_FP_emptiest {E : EV} {X : XT} {c0 : Nat} (hc0 : HC X 10 c0) {a1 : Int} (ha1 : inR a1) {S : St} {q : Int} (h : fn_FP_emptiest c0 a1 S = some q) : Ev E M_FP_emptiest [.ref c0, V a1] (WX X S) 0 0 (KI X q S) := by
  refine Ev.of pn_FP rfl (leK rfl) ?_
  show Go E M_FP_emptiest 0 0 0 [(0, .ref c0), (1, V a1)] [] (WX X S) 0 0 (KI X q S)
  unfold fn_FP_emptiest at h
  refine vg_iconst (pc := 0) (dK D_FP_emptiest 0 rfl) ?_
  refine g_istoren (pc := 1) (i0 := 2) (ls2 := [(2, V 0), (0, .ref c0), (1, V a1)]) (dK D_FP_emptiest 1 rfl) rfl (ltK rfl) rfl ?_
  refine vg_iconst (pc := 2) (dK D_FP_emptiest 2 rfl) ?_
  refine g_istoren (pc := 3) (i0 := 3) (ls2 := [(3, V 4), (2, V 0), (0, .ref c0), (1, V a1)]) (dK D_FP_emptiest 3 rfl) rfl (ltK rfl) rfl ?_
  refine bnSE h (fun p13 e_p13 h => ?_) (fun p12 e_p12 h => ?_)
  · refine gL_weak (ls' := [(0, .ref c0), (1, V a1), (2, V 0), (3, V 4)]) (sbc 2 rfl (sbc 3 rfl (sbc 1 rfl (sbc 0 rfl sbn)))) ?_
    refine tl_FP_emptiest_4 hc0 ha1 (fun _ e => slr e) (fun p e hr_p13 => ?_) FU (0, 4) e_p13 (inRk rfl) (inRk rfl)
    have e := Sum.inl.inj e
    subst e
    exact (by obtain rfl := Option.some.inj h; exact ⟨rfl, hr_p13, rfl⟩)
  · refine gL_weak (ls' := [(0, .ref c0), (1, V a1), (2, V 0), (3, V 4)]) (sbc 2 rfl (sbc 3 rfl (sbc 1 rfl (sbc 0 rfl sbn)))) ?_
    refine tl_FP_emptiest_4 hc0 ha1 (fun p e => ?_) (fun _ e => srl e) FU (0, 4) e_p12 (inRk rfl) (inRk rfl)
    have e := Sum.inr.inj e
    subst e
    refine vg_iconst (pc := 60) (dK D_FP_emptiest 30 rfl) ?_
    exact vg_iretI (pc := 61) (r := (-1)) (dK D_FP_emptiest 31 rfl) rfl (leK rfl) (leK rfl) (fun _ => rfl) (by obtain rfl := Option.some.inj h; exact ⟨rfl, (inRk rfl), rfl⟩)
def lb_FP_fill_4 (c0 : Nat) (S : St) (go : Int × Int → Option (Int)) (a1 : Int) (a2 : Int) : Option (Int) := if (g S (tgt c0 3) 1) < a2 then (some a1) else (if 0 ≤ a2 ∧ a2 < 65 then (nm (wr (a1 + (g S (tgt (tgt c0 3) 5) a2.toNat))) fun v2 => nm (wr (a2 + 1)) fun v3 => go (v2, v3)) else none)
def lo_FP_fill_4 (c0 : Nat) (S : St) : Nat → Int × Int → Option (Int) := lp fun go p => lb_FP_fill_4 c0 S go p.1 p.2
theorem tl_FP_fill_4 {E : EV} {X : XT} {c0 : Nat} (hc0 : HC X 10 c0) {S : St} {K : RK → PS → Prop} {q : Int} (hx : inR q → Go E M_FP_fill 0 0 33 [(0, .ref c0), (1, V q)] [] (WX X S) 0 0 K) : ∀ n a, lo_FP_fill_4 c0 S n a = some q → inR a.1 → inR a.2 → Go E M_FP_fill 0 0 4 [(0, .ref c0), (1, V a.1), (2, V a.2)] [] (WX X S) 0 0 K := by
  refine lp_ind (P := fun a : Int × Int => inR a.1 → inR a.2 → Go E M_FP_fill 0 0 4 [(0, .ref c0), (1, V a.1), (2, V a.2)] [] (WX X S) 0 0 K) (fun go ih a h => ?_)
  obtain ⟨a1, a2⟩ := a
  intro ha1 ha2
  show Go E M_FP_fill 0 0 4 [(0, .ref c0), (1, V a1), (2, V a2)] [] (WX X S) 0 0 K
  replace h : lb_FP_fill_4 c0 S go a1 a2 = some q := h
  unfold lb_FP_fill_4 at h
  refine g_iloadn (pc := 4) (i0 := 2) (j := 2) (dK D_FP_fill 4 rfl) rfl rfl ?_
  refine g_aloadn (pc := 5) (i0 := 0) (j := 0) (dK D_FP_fill 5 rfl) rfl rfl ?_
  refine vg_getO (pc := 6) (ci := 10) (f := 3) (dK D_FP_fill 6 rfl) q_436 hc0 (ltK rfl) (ltK rfl) rfl ?_
  refine vg_getI (pc := 9) (ci := 4) (f := 1) (dK D_FP_fill 7 rfl) q_307 (hw_10_3 hc0) (ltK rfl) (ltK rfl) rfl ?_
  refine vg_icmp_gt (pc := 12) (t := 33) (dK D_FP_fill 8 rfl) rfl ha2 (g_in _ _ _) (fun hc4 => ?_) (fun hc4 => ?_)
  · replace h := ifP h hc4
    obtain rfl := Option.some.inj h
    refine gL_weak (ls' := [(0, .ref c0), (1, V a1)]) (sbc 0 rfl (sbc 1 rfl sbn)) ?_
    exact hx ha1
  · replace h := ifN h hc4
    refine g_iloadn (pc := 15) (i0 := 1) (j := 1) (dK D_FP_fill 9 rfl) rfl rfl ?_
    refine g_aloadn (pc := 16) (i0 := 0) (j := 0) (dK D_FP_fill 10 rfl) rfl rfl ?_
    refine vg_getO (pc := 17) (ci := 10) (f := 3) (dK D_FP_fill 11 rfl) q_436 hc0 (ltK rfl) (ltK rfl) rfl ?_
    refine vg_getA (pc := 20) (ci := 4) (f := 5) (dK D_FP_fill 12 rfl) q_319 (hw_10_3 hc0) (ltK rfl) (ltK rfl) rfl ?_
    refine g_iloadn (pc := 23) (i0 := 2) (j := 2) (dK D_FP_fill 13 rfl) rfl rfl ?_
    refine gdE h (fun hi1 h => ?_)
    refine vg_iaload (pc := 24) (j := a2.toNat) (dK D_FP_fill 14 rfl) (hw_4_5 (hw_10_3 hc0)) rfl hi1 rfl ?_
    refine vg_iadd (pc := 25) (dK D_FP_fill 15 rfl) ?_
    refine nmE h (fun v2 e_v2 h => ?_)
    refine gtop e_v2 ?_
    refine g_istoren (pc := 26) (i0 := 1) (ls2 := [(1, V v2), (0, .ref c0), (2, V a2)]) (dK D_FP_fill 16 rfl) rfl (ltK rfl) rfl ?_
    refine nmE h (fun v3 e_v3 h => ?_)
    refine vg_iinc (pc := 27) (j := 2) (a := a2) (z := 1) (ls2 := [(2, V v3), (1, V v2), (0, .ref c0)]) (dK D_FP_fill 17 rfl) rfl e_v3 (ltK rfl) rfl ?_
    refine g_goto (pc := 30) (tgt := 4) (dK D_FP_fill 18 rfl) rfl ?_
    refine gL_weak (ls' := [(0, .ref c0), (1, V v2), (2, V v3)]) (sbc 2 rfl (sbc 1 rfl (sbc 0 rfl sbn))) ?_
    replace h := ih _ h
    exact h (Vn_in e_v2) (Vn_in e_v3)
def fn_FP_fill (c0 : Nat) (S : St) : Option (UInt64) := bnO (lo_FP_fill_4 c0 S FU (0, 1)) fun p5 => nm (wr (4 * (g S (tgt c0 3) 1))) fun v6 => if v6 ≤ 0 then (some 0) else (if ((FP.ddiv (i_d (v6 - p5)) (i_d v6)) &&& 0x7fffffffffffffff) ≤ 0x7ff0000000000000 then (some (FP.ddiv (i_d (v6 - p5)) (i_d v6))) else none)
theorem tf_FP_fill {E : EV} {X : XT} {c0 : Nat} (hc0 : HC X 10 c0) {S : St} {q : UInt64} (h : fn_FP_fill c0 S = some q) : Ev E M_FP_fill [.ref c0] (WX X S) 0 0 (KD X q S) := by
  refine Ev.of pn_FP rfl (leK rfl) ?_
  show Go E M_FP_fill 0 0 0 [(0, .ref c0)] [] (WX X S) 0 0 (KD X q S)
  unfold fn_FP_fill at h
  refine vg_iconst (pc := 0) (dK D_FP_fill 0 rfl) ?_
  refine g_istoren (pc := 1) (i0 := 1) (ls2 := [(1, V 0), (0, .ref c0)]) (dK D_FP_fill 1 rfl) rfl (ltK rfl) rfl ?_
  refine vg_iconst (pc := 2) (dK D_FP_fill 2 rfl) ?_
  refine g_istoren (pc := 3) (i0 := 2) (ls2 := [(2, V 1), (1, V 0), (0, .ref c0)]) (dK D_FP_fill 3 rfl) rfl (ltK rfl) rfl ?_
  refine bnE h (fun p5 e_p5 h => ?_)
  refine gL_weak (ls' := [(0, .ref c0), (1, V 0), (2, V 1)]) (sbc 2 rfl (sbc 1 rfl (sbc 0 rfl sbn))) ?_
  refine tl_FP_fill_4 hc0 (fun hx1_p5 => ?_) FU (0, 1) e_p5 (inRk rfl) (inRk rfl)
  refine vg_iconst (pc := 33) (dK D_FP_fill 19 rfl) ?_
  refine g_aloadn (pc := 34) (i0 := 0) (j := 0) (dK D_FP_fill 20 rfl) rfl rfl ?_
  refine vg_getO (pc := 35) (ci := 10) (f := 3) (dK D_FP_fill 21 rfl) q_436 hc0 (ltK rfl) (ltK rfl) rfl ?_
  refine vg_getI (pc := 38) (ci := 4) (f := 1) (dK D_FP_fill 22 rfl) q_307 (hw_10_3 hc0) (ltK rfl) (ltK rfl) rfl ?_
  refine vg_imul (pc := 41) (dK D_FP_fill 23 rfl) ?_
  refine nmE h (fun v6 e_v6 h => ?_)
  refine gtop e_v6 ?_
  refine g_istoren (pc := 42) (i0 := 2) (ls2 := [(2, V v6), (0, .ref c0), (1, V p5)]) (dK D_FP_fill 24 rfl) rfl (ltK rfl) rfl ?_
  refine g_iloadn (pc := 43) (i0 := 2) (j := 0) (dK D_FP_fill 25 rfl) rfl rfl ?_
  refine vg_if_le (pc := 44) (t := 57) (dK D_FP_fill 26 rfl) rfl (Vn_in e_v6) (fun hc8 => ?_) (fun hc8 => ?_)
  · replace h := ifP h hc8
    refine g_dconst0 (pc := 57) (dK D_FP_fill 35 rfl) ?_
    exact g_dreturn (pc := 58) (dK D_FP_fill 36 rfl) rfl (leK rfl) (leK rfl) (fun _ => rfl) (by obtain rfl := Option.some.inj h; exact ⟨rfl, rfl⟩)
  · replace h := ifN h hc8
    refine g_iloadn (pc := 47) (i0 := 2) (j := 0) (dK D_FP_fill 27 rfl) rfl rfl ?_
    refine g_iloadn (pc := 48) (i0 := 1) (j := 2) (dK D_FP_fill 28 rfl) rfl rfl ?_
    refine vg_isub (pc := 49) (dK D_FP_fill 29 rfl) ?_
    refine vg_i2d (pc := 50) (dK D_FP_fill 30 rfl) ?_
    refine g_iloadn (pc := 51) (i0 := 2) (j := 0) (dK D_FP_fill 31 rfl) rfl rfl ?_
    refine vg_i2d (pc := 52) (dK D_FP_fill 32 rfl) ?_
    refine gdE h (fun hd7 h => ?_)
    refine g_ddiv (pc := 53) (dK D_FP_fill 33 rfl) hd7 ?_
    refine g_goto (pc := 54) (tgt := 58) (dK D_FP_fill 34 rfl) rfl ?_
    exact g_dreturn (pc := 58) (dK D_FP_fill 36 rfl) rfl (leK rfl) (leK rfl) (fun _ => rfl) (by obtain rfl := Option.some.inj h; exact ⟨rfl, rfl⟩)
def lb_FP_emptyRun_26 (c0 : Nat) (a1 : Int) (S : St) (go : Int × Int → Option ((Int) ⊕ (Unit))) (a2 : Int) (a3 : Int) : Option ((Int) ⊕ (Unit)) := if (g S (tgt c0 3) 1) < a3 then (some (.inr ())) else (if 0 ≤ a3 ∧ a3 < 65 then (if (g S (tgt (tgt c0 3) 5) a3.toNat) = 4 then (nm (wr (a2 + 1)) fun v4 => if v4 = a1 then (some (.inl (wr ((a3 - a1) + 1)))) else (nm (wr (a3 + 1)) fun v5 => go (v4, v5))) else (if 0 = a1 then (some (.inl (wr ((a3 - a1) + 1)))) else (nm (wr (a3 + 1)) fun v2 => go (0, v2)))) else none)
def lo_FP_emptyRun_26 (c0 : Nat) (a1 : Int) (S : St) : Nat → Int × Int → Option ((Int) ⊕ (Unit)) := lp fun go p => lb_FP_emptyRun_26 c0 a1 S go p.1 p.2
theorem tl_FP_emptyRun_26 {E : EV} {X : XT} (hfl : X.2.2.2 = false) {c0 : Nat} (hc0 : HC X 10 c0) {a1 : Int} (ha1 : inR a1) {S : St} {K : RK → PS → Prop} {q : (Int) ⊕ (Unit)} (hx : ∀ p, q = .inr p → Go E M_FP_emptyRun 1 6 75 [] [] (WX X S) 0 0 K) (hr : ∀ p, q = .inl p → inR p → K (.inl (some (V p))) (WX X S)) : ∀ n a, lo_FP_emptyRun_26 c0 a1 S n a = some q → inR a.1 → inR a.2 → Go E M_FP_emptyRun 1 6 26 [(0, .ref c0), (1, V a1), (2, V a.1), (3, V a.2)] [] (WX X S) 0 0 K := by
  refine lp_ind (P := fun a : Int × Int => inR a.1 → inR a.2 → Go E M_FP_emptyRun 1 6 26 [(0, .ref c0), (1, V a1), (2, V a.1), (3, V a.2)] [] (WX X S) 0 0 K) (fun go ih a h => ?_)
  obtain ⟨a2, a3⟩ := a
  intro ha2 ha3
  show Go E M_FP_emptyRun 1 6 26 [(0, .ref c0), (1, V a1), (2, V a2), (3, V a3)] [] (WX X S) 0 0 K
  replace h : lb_FP_emptyRun_26 c0 a1 S go a2 a3 = some q := h
  unfold lb_FP_emptyRun_26 at h
  refine g_iloadn (pc := 26) (i0 := 3) (j := 3) (dK D_FP_emptyRun 15 rfl) rfl rfl ?_
  refine g_aloadn (pc := 27) (i0 := 0) (j := 0) (dK D_FP_emptyRun 16 rfl) rfl rfl ?_
  refine vg_getO (pc := 28) (ci := 10) (f := 3) (dK D_FP_emptyRun 17 rfl) q_436 hc0 (ltK rfl) (ltK rfl) rfl ?_
  refine vg_getI (pc := 31) (ci := 4) (f := 1) (dK D_FP_emptyRun 18 rfl) q_307 (hw_10_3 hc0) (ltK rfl) (ltK rfl) rfl ?_
  refine vg_icmp_gt (pc := 34) (t := 75) (dK D_FP_emptyRun 19 rfl) rfl ha3 (g_in _ _ _) (fun hc8 => ?_) (fun hc8 => ?_)
  · replace h := ifP h hc8
    refine gL_weak (ls' := []) sbn ?_
    exact hx _ (Option.some.inj h).symm 
  · replace h := ifN h hc8
    refine g_aloadn (pc := 37) (i0 := 0) (j := 0) (dK D_FP_emptyRun 20 rfl) rfl rfl ?_
    refine vg_getO (pc := 38) (ci := 10) (f := 3) (dK D_FP_emptyRun 21 rfl) q_436 hc0 (ltK rfl) (ltK rfl) rfl ?_
    refine vg_getA (pc := 41) (ci := 4) (f := 5) (dK D_FP_emptyRun 22 rfl) q_319 (hw_10_3 hc0) (ltK rfl) (ltK rfl) rfl ?_
    refine g_iloadn (pc := 44) (i0 := 3) (j := 3) (dK D_FP_emptyRun 23 rfl) rfl rfl ?_
    refine gdE h (fun hi1 h => ?_)
    refine vg_iaload (pc := 45) (j := a3.toNat) (dK D_FP_emptyRun 24 rfl) (hw_4_5 (hw_10_3 hc0)) rfl hi1 rfl ?_
    refine vg_iconst (pc := 46) (dK D_FP_emptyRun 25 rfl) ?_
    refine vg_icmp_ne (pc := 47) (t := 56) (dK D_FP_emptyRun 26 rfl) rfl (g_in _ _ _) (inRk rfl) (fun hc7 => ?_) (fun hc7 => ?_)
    · replace h := ifN h hc7
      refine vg_iconst (pc := 56) (dK D_FP_emptyRun 31 rfl) ?_
      refine g_istoren (pc := 57) (i0 := 2) (ls2 := [(2, V 0), (0, .ref c0), (1, V a1), (3, V a3)]) (dK D_FP_emptyRun 32 rfl) rfl (ltK rfl) rfl ?_
      refine g_iloadn (pc := 58) (i0 := 2) (j := 0) (dK D_FP_emptyRun 33 rfl) rfl rfl ?_
      refine g_iloadn (pc := 59) (i0 := 1) (j := 2) (dK D_FP_emptyRun 34 rfl) rfl rfl ?_
      refine vg_icmp_ne (pc := 60) (t := 69) (dK D_FP_emptyRun 35 rfl) rfl (inRk rfl) ha1 (fun hc3 => ?_) (fun hc3 => ?_)
      · replace h := ifN h hc3
        refine nmE h (fun v2 e_v2 h => ?_)
        refine vg_iinc (pc := 69) (j := 3) (a := a3) (z := 1) (ls2 := [(3, V v2), (2, V 0), (0, .ref c0), (1, V a1)]) (dK D_FP_emptyRun 42 rfl) rfl e_v2 (ltK rfl) rfl ?_
        refine g_goto (pc := 72) (tgt := 26) (dK D_FP_emptyRun 43 rfl) rfl ?_
        refine gL_weak (ls' := [(0, .ref c0), (1, V a1), (2, V 0), (3, V v2)]) (sbc 2 rfl (sbc 3 rfl (sbc 1 rfl (sbc 0 rfl sbn)))) ?_
        replace h := ih _ h
        exact h (inRk rfl) (Vn_in e_v2)
      · replace h := ifP h hc3
        refine g_iloadn (pc := 63) (i0 := 3) (j := 3) (dK D_FP_emptyRun 36 rfl) rfl rfl ?_
        refine g_iloadn (pc := 64) (i0 := 1) (j := 2) (dK D_FP_emptyRun 37 rfl) rfl rfl ?_
        refine vg_isub (pc := 65) (dK D_FP_emptyRun 38 rfl) ?_
        refine vg_iconst (pc := 66) (dK D_FP_emptyRun 39 rfl) ?_
        refine vg_iadd (pc := 67) (dK D_FP_emptyRun 40 rfl) ?_
        refine gtop (x := (wr ((a3 - a1) + 1))) rfl ?_
        exact vg_iretI (pc := 68) (r := (wr ((a3 - a1) + 1))) (dK D_FP_emptyRun 41 rfl) rfl (leK rfl) (leK rfl) (xf hfl) (hr _ (Option.some.inj h).symm (wr_in _))
    · replace h := ifP h hc7
      refine g_iloadn (pc := 50) (i0 := 2) (j := 2) (dK D_FP_emptyRun 27 rfl) rfl rfl ?_
      refine vg_iconst (pc := 51) (dK D_FP_emptyRun 28 rfl) ?_
      refine vg_iadd (pc := 52) (dK D_FP_emptyRun 29 rfl) ?_
      refine g_goto (pc := 53) (tgt := 57) (dK D_FP_emptyRun 30 rfl) rfl ?_
      refine nmE h (fun v4 e_v4 h => ?_)
      refine gtop e_v4 ?_
      refine g_istoren (pc := 57) (i0 := 2) (ls2 := [(2, V v4), (0, .ref c0), (1, V a1), (3, V a3)]) (dK D_FP_emptyRun 32 rfl) rfl (ltK rfl) rfl ?_
      refine g_iloadn (pc := 58) (i0 := 2) (j := 0) (dK D_FP_emptyRun 33 rfl) rfl rfl ?_
      refine g_iloadn (pc := 59) (i0 := 1) (j := 2) (dK D_FP_emptyRun 34 rfl) rfl rfl ?_
      refine vg_icmp_ne (pc := 60) (t := 69) (dK D_FP_emptyRun 35 rfl) rfl (Vn_in e_v4) ha1 (fun hc6 => ?_) (fun hc6 => ?_)
      · replace h := ifN h hc6
        refine nmE h (fun v5 e_v5 h => ?_)
        refine vg_iinc (pc := 69) (j := 3) (a := a3) (z := 1) (ls2 := [(3, V v5), (2, V v4), (0, .ref c0), (1, V a1)]) (dK D_FP_emptyRun 42 rfl) rfl e_v5 (ltK rfl) rfl ?_
        refine g_goto (pc := 72) (tgt := 26) (dK D_FP_emptyRun 43 rfl) rfl ?_
        refine gL_weak (ls' := [(0, .ref c0), (1, V a1), (2, V v4), (3, V v5)]) (sbc 2 rfl (sbc 3 rfl (sbc 1 rfl (sbc 0 rfl sbn)))) ?_
        replace h := ih _ h
        exact h (Vn_in e_v4) (Vn_in e_v5)
      · replace h := ifP h hc6
        refine g_iloadn (pc := 63) (i0 := 3) (j := 3) (dK D_FP_emptyRun 36 rfl) rfl rfl ?_
        refine g_iloadn (pc := 64) (i0 := 1) (j := 2) (dK D_FP_emptyRun 37 rfl) rfl rfl ?_
        refine vg_isub (pc := 65) (dK D_FP_emptyRun 38 rfl) ?_
        refine vg_iconst (pc := 66) (dK D_FP_emptyRun 39 rfl) ?_
        refine vg_iadd (pc := 67) (dK D_FP_emptyRun 40 rfl) ?_
        refine gtop (x := (wr ((a3 - a1) + 1))) rfl ?_
        exact vg_iretI (pc := 68) (r := (wr ((a3 - a1) + 1))) (dK D_FP_emptyRun 41 rfl) rfl (leK rfl) (leK rfl) (xf hfl) (hr _ (Option.some.inj h).symm (wr_in _))
def fn_FP_emptyRun (c0 : Nat) (a1 : Int) (S : St) : Option (Nat × Int) := if a1 < 1 then (some (2, 0)) else (if a1 ≤ 64 then (bnS (lo_FP_emptyRun_26 c0 a1 S FU (0, 1)) (fun p10 => some (0, p10)) fun p9 => some (0, (-1))) else (some (2, 0)))
theorem tf_FP_emptyRun {E : EV} {X : XT} (hfl : X.2.2.2 = false) {c0 : Nat} (hc0 : HC X 10 c0) {a1 : Int} (ha1 : inR a1) {S : St} {q : Nat × Int} (h : fn_FP_emptyRun c0 a1 S = some q) : Ev E M_FP_emptyRun [.ref c0, V a1] (WX X S) 1 6 (KT X q.1 S (KI X q.2 S)) := by
  refine Ev.of pn_FP rfl (leK rfl) ?_
  show Go E M_FP_emptyRun 1 6 0 [(0, .ref c0), (1, V a1)] [] (WX X S) 0 0 (KT X q.1 S (KI X q.2 S))
  unfold fn_FP_emptyRun at h
  refine g_iloadn (pc := 0) (i0 := 1) (j := 1) (dK D_FP_emptyRun 0 rfl) rfl rfl ?_
  refine vg_iconst (pc := 1) (dK D_FP_emptyRun 1 rfl) ?_
  refine vg_icmp_lt (pc := 2) (t := 11) (dK D_FP_emptyRun 2 rfl) rfl ha1 (inRk rfl) (fun hc12 => ?_) (fun hc12 => ?_)
  · replace h := ifP h hc12
    exact vg_throwW hfl (pc := 11) TH_FP_148_318 (dK D_FP_emptyRun 6 rfl) (dK D_FP_emptyRun 7 rfl) (dK D_FP_emptyRun 8 rfl) (dK D_FP_emptyRun 9 rfl) (dK D_FP_emptyRun 10 rfl) rfl (leK rfl) (leK rfl) (leK rfl) (leK rfl) (leK rfl) (by obtain rfl := Option.some.inj h; exact KT_thr (e := 2) (by decide))
  · replace h := ifN h hc12
    refine g_iloadn (pc := 5) (i0 := 1) (j := 1) (dK D_FP_emptyRun 3 rfl) rfl rfl ?_
    refine vg_bipush (pc := 6) (dK D_FP_emptyRun 4 rfl) rfl ?_
    refine vg_icmp_le (pc := 8) (t := 22) (dK D_FP_emptyRun 5 rfl) rfl ha1 (inRk rfl) (fun hc11 => ?_) (fun hc11 => ?_)
    · replace h := ifP h hc11
      refine vg_iconst (pc := 22) (dK D_FP_emptyRun 11 rfl) ?_
      refine g_istoren (pc := 23) (i0 := 2) (ls2 := [(2, V 0), (0, .ref c0), (1, V a1)]) (dK D_FP_emptyRun 12 rfl) rfl (ltK rfl) rfl ?_
      refine vg_iconst (pc := 24) (dK D_FP_emptyRun 13 rfl) ?_
      refine g_istoren (pc := 25) (i0 := 3) (ls2 := [(3, V 1), (2, V 0), (0, .ref c0), (1, V a1)]) (dK D_FP_emptyRun 14 rfl) rfl (ltK rfl) rfl ?_
      refine bnSE h (fun p10 e_p10 h => ?_) (fun p9 e_p9 h => ?_)
      · refine gL_weak (ls' := [(0, .ref c0), (1, V a1), (2, V 0), (3, V 1)]) (sbc 2 rfl (sbc 3 rfl (sbc 1 rfl (sbc 0 rfl sbn)))) ?_
        refine tl_FP_emptyRun_26 hfl hc0 ha1 (fun _ e => slr e) (fun p e hr_p10 => ?_) FU (0, 1) e_p10 (inRk rfl) (inRk rfl)
        have e := Sum.inl.inj e
        subst e
        exact (by obtain rfl := Option.some.inj h; exact KT_ok ⟨rfl, hr_p10, rfl⟩)
      · refine gL_weak (ls' := [(0, .ref c0), (1, V a1), (2, V 0), (3, V 1)]) (sbc 2 rfl (sbc 3 rfl (sbc 1 rfl (sbc 0 rfl sbn)))) ?_
        refine tl_FP_emptyRun_26 hfl hc0 ha1 (fun p e => ?_) (fun _ e => srl e) FU (0, 1) e_p9 (inRk rfl) (inRk rfl)
        have e := Sum.inr.inj e
        subst e
        refine vg_iconst (pc := 75) (dK D_FP_emptyRun 44 rfl) ?_
        exact vg_iretI (pc := 76) (r := (-1)) (dK D_FP_emptyRun 45 rfl) rfl (leK rfl) (leK rfl) (xf hfl) (by obtain rfl := Option.some.inj h; exact KT_ok ⟨rfl, (inRk rfl), rfl⟩)
    · replace h := ifN h hc11
      exact vg_throwW hfl (pc := 11) TH_FP_148_318 (dK D_FP_emptyRun 6 rfl) (dK D_FP_emptyRun 7 rfl) (dK D_FP_emptyRun 8 rfl) (dK D_FP_emptyRun 9 rfl) (dK D_FP_emptyRun 10 rfl) rfl (leK rfl) (leK rfl) (leK rfl) (leK rfl) (leK rfl) (by obtain rfl := Option.some.inj h; exact KT_thr (e := 2) (by decide))
def fn_FP_needForm (c0 : Nat) (a1 : Int) (S : St) : Option (Nat) := if a1 < 0 then (some 1) else (if a1 < (g S (tgt c0 3) 2) then (some 0) else (some 1))
theorem tf_FP_needForm {E : EV} {X : XT} (hfl : X.2.2.2 = false) {c0 : Nat} (hc0 : HC X 10 c0) {a1 : Int} (ha1 : inR a1) {S : St} {q : Nat} (h : fn_FP_needForm c0 a1 S = some q) : Ev E M_FP_needForm [.ref c0, V a1] (WX X S) 1 6 (KT X q S (KU X S)) := by
  refine Ev.of pn_FP rfl (leK rfl) ?_
  show Go E M_FP_needForm 1 6 0 [(0, .ref c0), (1, V a1)] [] (WX X S) 0 0 (KT X q S (KU X S))
  unfold fn_FP_needForm at h
  refine g_iloadn (pc := 0) (i0 := 1) (j := 1) (dK D_FP_needForm 0 rfl) rfl rfl ?_
  refine vg_if_lt (pc := 1) (t := 15) (dK D_FP_needForm 1 rfl) rfl ha1 (fun hc2 => ?_) (fun hc2 => ?_)
  · replace h := ifP h hc2
    exact vg_throwW hfl (pc := 15) TH_FP_363_377 (dK D_FP_needForm 7 rfl) (dK D_FP_needForm 8 rfl) (dK D_FP_needForm 9 rfl) (dK D_FP_needForm 10 rfl) (dK D_FP_needForm 11 rfl) rfl (leK rfl) (leK rfl) (leK rfl) (leK rfl) (leK rfl) (by obtain rfl := Option.some.inj h; exact KT_thr (e := 1) (by decide))
  · replace h := ifN h hc2
    refine g_iloadn (pc := 4) (i0 := 1) (j := 1) (dK D_FP_needForm 2 rfl) rfl rfl ?_
    refine g_aloadn (pc := 5) (i0 := 0) (j := 0) (dK D_FP_needForm 3 rfl) rfl rfl ?_
    refine vg_getO (pc := 6) (ci := 10) (f := 3) (dK D_FP_needForm 4 rfl) q_436 hc0 (ltK rfl) (ltK rfl) rfl ?_
    refine vg_getI (pc := 9) (ci := 4) (f := 2) (dK D_FP_needForm 5 rfl) q_311 (hw_10_3 hc0) (ltK rfl) (ltK rfl) rfl ?_
    refine vg_icmp_lt (pc := 12) (t := 26) (dK D_FP_needForm 6 rfl) rfl ha1 (g_in _ _ _) (fun hc1 => ?_) (fun hc1 => ?_)
    · replace h := ifP h hc1
      exact g_return (pc := 26) (dK D_FP_needForm 12 rfl) rfl (leK rfl) (leK rfl) (xf hfl) (by obtain rfl := Option.some.inj h; exact KT_ok ⟨rfl, rfl⟩)
    · replace h := ifN h hc1
      exact vg_throwW hfl (pc := 15) TH_FP_363_377 (dK D_FP_needForm 7 rfl) (dK D_FP_needForm 8 rfl) (dK D_FP_needForm 9 rfl) (dK D_FP_needForm 10 rfl) (dK D_FP_needForm 11 rfl) rfl (leK rfl) (leK rfl) (leK rfl) (leK rfl) (leK rfl) (by obtain rfl := Option.some.inj h; exact KT_thr (e := 1) (by decide))
def lb_FP_pageOf_10 (c0 : Nat) (a1 : Int) (a2 : Int) (S : St) (go : Int × Int → Option ((Int) ⊕ (Unit))) (a3 : Int) (a4 : Int) : Option ((Int) ⊕ (Unit)) := if (g S (tgt c0 3) 1) < a4 then (some (.inr ())) else (if 0 ≤ a4 ∧ a4 < 65 then (if (g S (tgt (tgt c0 3) 3) a4.toNat) = a1 then (if a3 = a2 then (some (.inl a4)) else (nm (wr (a3 + 1)) fun v4 => nm (wr (a4 + 1)) fun v5 => go (v4, v5))) else (nm (wr (a4 + 1)) fun v3 => go (a3, v3))) else none)
def lo_FP_pageOf_10 (c0 : Nat) (a1 : Int) (a2 : Int) (S : St) : Nat → Int × Int → Option ((Int) ⊕ (Unit)) := lp fun go p => lb_FP_pageOf_10 c0 a1 a2 S go p.1 p.2
theorem tl_FP_pageOf_10 {E : EV} {X : XT} (hfl : X.2.2.2 = false) {c0 : Nat} (hc0 : HC X 10 c0) {a1 : Int} (ha1 : inR a1) {a2 : Int} (ha2 : inR a2) {S : St} {K : RK → PS → Prop} {q : (Int) ⊕ (Unit)} (hx : ∀ p, q = .inr p → Go E M_FP_pageOf 1 6 53 [] [] (WX X S) 1 6 K) (hr : ∀ p, q = .inl p → inR p → K (.inl (some (V p))) (WX X S)) : ∀ n a, lo_FP_pageOf_10 c0 a1 a2 S n a = some q → inR a.1 → inR a.2 → Go E M_FP_pageOf 1 6 10 [(0, .ref c0), (1, V a1), (2, V a2), (3, V a.1), (4, V a.2)] [] (WX X S) 1 6 K := by
  refine lp_ind (P := fun a : Int × Int => inR a.1 → inR a.2 → Go E M_FP_pageOf 1 6 10 [(0, .ref c0), (1, V a1), (2, V a2), (3, V a.1), (4, V a.2)] [] (WX X S) 1 6 K) (fun go ih a h => ?_)
  obtain ⟨a3, a4⟩ := a
  intro ha3 ha4
  show Go E M_FP_pageOf 1 6 10 [(0, .ref c0), (1, V a1), (2, V a2), (3, V a3), (4, V a4)] [] (WX X S) 1 6 K
  replace h : lb_FP_pageOf_10 c0 a1 a2 S go a3 a4 = some q := h
  unfold lb_FP_pageOf_10 at h
  refine g_iload (pc := 10) (j := 4) (dK D_FP_pageOf 7 rfl) rfl ?_
  refine g_aloadn (pc := 12) (i0 := 0) (j := 0) (dK D_FP_pageOf 8 rfl) rfl rfl ?_
  refine vg_getO (pc := 13) (ci := 10) (f := 3) (dK D_FP_pageOf 9 rfl) q_436 hc0 (ltK rfl) (ltK rfl) rfl ?_
  refine vg_getI (pc := 16) (ci := 4) (f := 1) (dK D_FP_pageOf 10 rfl) q_307 (hw_10_3 hc0) (ltK rfl) (ltK rfl) rfl ?_
  refine vg_icmp_gt (pc := 19) (t := 53) (dK D_FP_pageOf 11 rfl) rfl ha4 (g_in _ _ _) (fun hc8 => ?_) (fun hc8 => ?_)
  · replace h := ifP h hc8
    refine gL_weak (ls' := []) sbn ?_
    exact hx _ (Option.some.inj h).symm 
  · replace h := ifN h hc8
    refine g_aloadn (pc := 22) (i0 := 0) (j := 0) (dK D_FP_pageOf 12 rfl) rfl rfl ?_
    refine vg_getO (pc := 23) (ci := 10) (f := 3) (dK D_FP_pageOf 13 rfl) q_436 hc0 (ltK rfl) (ltK rfl) rfl ?_
    refine vg_getA (pc := 26) (ci := 4) (f := 3) (dK D_FP_pageOf 14 rfl) q_314 (hw_10_3 hc0) (ltK rfl) (ltK rfl) rfl ?_
    refine g_iload (pc := 29) (j := 4) (dK D_FP_pageOf 15 rfl) rfl ?_
    refine gdE h (fun hi2 h => ?_)
    refine vg_iaload (pc := 31) (j := a4.toNat) (dK D_FP_pageOf 16 rfl) (hw_4_3 (hw_10_3 hc0)) rfl hi2 rfl ?_
    refine g_iloadn (pc := 32) (i0 := 1) (j := 1) (dK D_FP_pageOf 17 rfl) rfl rfl ?_
    refine vg_icmp_ne (pc := 33) (t := 47) (dK D_FP_pageOf 18 rfl) rfl (g_in _ _ _) ha1 (fun hc7 => ?_) (fun hc7 => ?_)
    · replace h := ifN h hc7
      refine nmE h (fun v3 e_v3 h => ?_)
      refine vg_iinc (pc := 47) (j := 4) (a := a4) (z := 1) (ls2 := [(4, V v3), (0, .ref c0), (1, V a1), (2, V a2), (3, V a3)]) (dK D_FP_pageOf 25 rfl) rfl e_v3 (ltK rfl) rfl ?_
      refine g_goto (pc := 50) (tgt := 10) (dK D_FP_pageOf 26 rfl) rfl ?_
      refine gL_weak (ls' := [(0, .ref c0), (1, V a1), (2, V a2), (3, V a3), (4, V v3)]) (sbc 1 rfl (sbc 2 rfl (sbc 3 rfl (sbc 4 rfl (sbc 0 rfl sbn))))) ?_
      replace h := ih _ h
      exact h ha3 (Vn_in e_v3)
    · replace h := ifP h hc7
      refine g_iloadn (pc := 36) (i0 := 3) (j := 3) (dK D_FP_pageOf 19 rfl) rfl rfl ?_
      refine g_iloadn (pc := 37) (i0 := 2) (j := 2) (dK D_FP_pageOf 20 rfl) rfl rfl ?_
      refine vg_icmp_ne (pc := 38) (t := 44) (dK D_FP_pageOf 21 rfl) rfl ha3 ha2 (fun hc6 => ?_) (fun hc6 => ?_)
      · replace h := ifN h hc6
        refine nmE h (fun v4 e_v4 h => ?_)
        refine vg_iinc (pc := 44) (j := 3) (a := a3) (z := 1) (ls2 := [(3, V v4), (0, .ref c0), (1, V a1), (2, V a2), (4, V a4)]) (dK D_FP_pageOf 24 rfl) rfl e_v4 (ltK rfl) rfl ?_
        refine nmE h (fun v5 e_v5 h => ?_)
        refine vg_iinc (pc := 47) (j := 4) (a := a4) (z := 1) (ls2 := [(4, V v5), (3, V v4), (0, .ref c0), (1, V a1), (2, V a2)]) (dK D_FP_pageOf 25 rfl) rfl e_v5 (ltK rfl) rfl ?_
        refine g_goto (pc := 50) (tgt := 10) (dK D_FP_pageOf 26 rfl) rfl ?_
        refine gL_weak (ls' := [(0, .ref c0), (1, V a1), (2, V a2), (3, V v4), (4, V v5)]) (sbc 2 rfl (sbc 3 rfl (sbc 4 rfl (sbc 1 rfl (sbc 0 rfl sbn))))) ?_
        replace h := ih _ h
        exact h (Vn_in e_v4) (Vn_in e_v5)
      · replace h := ifP h hc6
        refine g_iload (pc := 41) (j := 4) (dK D_FP_pageOf 22 rfl) rfl ?_
        exact vg_iretI (pc := 43) (r := a4) (dK D_FP_pageOf 23 rfl) rfl (leK rfl) (leK rfl) (xf hfl) (hr _ (Option.some.inj h).symm ha4)
def fn_FP_pageOf (c0 : Nat) (a1 : Int) (a2 : Int) (S : St) : Option (Nat × Int) := bnO (fn_FP_needForm c0 a1 S) fun p1 => if p1 = 0 then (bnS (lo_FP_pageOf_10 c0 a1 a2 S FU (0, 1)) (fun p10 => some (0, p10)) fun p9 => some (0, (-1))) else (some (p1, 0))
theorem tf_FP_pageOf {E : EV} {X : XT} (hfl : X.2.2.2 = false) {c0 : Nat} (hc0 : HC X 10 c0) {a1 : Int} (ha1 : inR a1) {a2 : Int} (ha2 : inR a2) {S : St} {q : Nat × Int} (h : fn_FP_pageOf c0 a1 a2 S = some q) : Ev E M_FP_pageOf [.ref c0, V a1, V a2] (WX X S) 1 6 (KT X q.1 S (KI X q.2 S)) := by
  refine Ev.of pn_FP rfl (leK rfl) ?_
  show Go E M_FP_pageOf 1 6 0 [(0, .ref c0), (1, V a1), (2, V a2)] [] (WX X S) 0 0 (KT X q.1 S (KI X q.2 S))
  unfold fn_FP_pageOf at h
  refine g_aloadn (pc := 0) (i0 := 0) (j := 0) (dK D_FP_pageOf 0 rfl) rfl rfl ?_
  refine g_iloadn (pc := 1) (i0 := 1) (j := 1) (dK D_FP_pageOf 1 rfl) rfl rfl ?_
  refine bnE h (fun p1 e_p1 h => ?_)
  refine vg_cV (pc := 2) (As := [V a1]) (rest := []) (mc' := 1) (ms' := 6) (dK D_FP_pageOf 2 rfl) K_FP_223 (fitK rfl) (ltK rfl) hc0 rfl (leK rfl) (leK rfl) (leK rfl) (tf_FP_needForm hfl hc0 ha1 e_p1) (kcT hfl (fun he11 => kcU ?_) (fun he11 => ⟨rfl, ?_⟩))
  · replace h := ifP h he11
    refine vg_iconst (pc := 5) (dK D_FP_pageOf 3 rfl) ?_
    refine g_istoren (pc := 6) (i0 := 3) (ls2 := [(3, V 0), (0, .ref c0), (1, V a1), (2, V a2)]) (dK D_FP_pageOf 4 rfl) rfl (ltK rfl) rfl ?_
    refine vg_iconst (pc := 7) (dK D_FP_pageOf 5 rfl) ?_
    refine g_istore (pc := 8) (ls2 := [(4, V 1), (3, V 0), (0, .ref c0), (1, V a1), (2, V a2)]) (dK D_FP_pageOf 6 rfl) (ltK rfl) rfl ?_
    refine bnSE h (fun p10 e_p10 h => ?_) (fun p9 e_p9 h => ?_)
    · refine gL_weak (ls' := [(0, .ref c0), (1, V a1), (2, V a2), (3, V 0), (4, V 1)]) (sbc 2 rfl (sbc 3 rfl (sbc 4 rfl (sbc 1 rfl (sbc 0 rfl sbn))))) ?_
      refine tl_FP_pageOf_10 hfl hc0 ha1 ha2 (fun _ e => slr e) (fun p e hr_p10 => ?_) FU (0, 1) e_p10 (inRk rfl) (inRk rfl)
      have e := Sum.inl.inj e
      subst e
      exact (by obtain rfl := Option.some.inj h; exact KT_ok ⟨rfl, hr_p10, rfl⟩)
    · refine gL_weak (ls' := [(0, .ref c0), (1, V a1), (2, V a2), (3, V 0), (4, V 1)]) (sbc 2 rfl (sbc 3 rfl (sbc 4 rfl (sbc 1 rfl (sbc 0 rfl sbn))))) ?_
      refine tl_FP_pageOf_10 hfl hc0 ha1 ha2 (fun p e => ?_) (fun _ e => srl e) FU (0, 1) e_p9 (inRk rfl) (inRk rfl)
      have e := Sum.inr.inj e
      subst e
      refine vg_iconst (pc := 53) (dK D_FP_pageOf 27 rfl) ?_
      exact vg_iretI (pc := 54) (r := (-1)) (dK D_FP_pageOf 28 rfl) rfl (leK rfl) (leK rfl) (xf hfl) (by obtain rfl := Option.some.inj h; exact KT_ok ⟨rfl, (inRk rfl), rfl⟩)
  · replace h := ifN h he11
    obtain rfl := Option.some.inj h
    exact KT_thr he11
def lb_Plan_leftOnForm_4 (c0 : Nat) (a1 : Int) (S : St) (go : Int × Int → Option (Int)) (a2 : Int) (a3 : Int) : Option (Int) := if (g S c0 1) < a3 then (some a2) else (if 0 ≤ a3 ∧ a3 < 65 then (if (g S (tgt c0 3) a3.toNat) = a1 then (nm (wr (a2 + (g S (tgt c0 5) a3.toNat))) fun v3 => nm (wr (a3 + 1)) fun v4 => go (v3, v4)) else (nm (wr (a3 + 1)) fun v2 => go (a2, v2))) else none)
def lo_Plan_leftOnForm_4 (c0 : Nat) (a1 : Int) (S : St) : Nat → Int × Int → Option (Int) := lp fun go p => lb_Plan_leftOnForm_4 c0 a1 S go p.1 p.2
theorem tl_Plan_leftOnForm_4 {E : EV} {X : XT} {c0 : Nat} (hc0 : HC X 4 c0) {a1 : Int} (ha1 : inR a1) {S : St} {K : RK → PS → Prop} {q : Int} (hx : inR q → Go E M_Plan_leftOnForm 0 0 37 [(2, V q)] [] (WX X S) 0 0 K) : ∀ n a, lo_Plan_leftOnForm_4 c0 a1 S n a = some q → inR a.1 → inR a.2 → Go E M_Plan_leftOnForm 0 0 4 [(0, .ref c0), (1, V a1), (2, V a.1), (3, V a.2)] [] (WX X S) 0 0 K := by
  refine lp_ind (P := fun a : Int × Int => inR a.1 → inR a.2 → Go E M_Plan_leftOnForm 0 0 4 [(0, .ref c0), (1, V a1), (2, V a.1), (3, V a.2)] [] (WX X S) 0 0 K) (fun go ih a h => ?_)
  obtain ⟨a2, a3⟩ := a
  intro ha2 ha3
  show Go E M_Plan_leftOnForm 0 0 4 [(0, .ref c0), (1, V a1), (2, V a2), (3, V a3)] [] (WX X S) 0 0 K
  replace h : lb_Plan_leftOnForm_4 c0 a1 S go a2 a3 = some q := h
  unfold lb_Plan_leftOnForm_4 at h
  refine g_iloadn (pc := 4) (i0 := 3) (j := 3) (dK D_Plan_leftOnForm 4 rfl) rfl rfl ?_
  refine g_aloadn (pc := 5) (i0 := 0) (j := 0) (dK D_Plan_leftOnForm 5 rfl) rfl rfl ?_
  refine vg_getI (pc := 6) (ci := 4) (f := 1) (dK D_Plan_leftOnForm 6 rfl) q_305 hc0 (ltK rfl) (ltK rfl) rfl ?_
  refine vg_icmp_gt (pc := 9) (t := 37) (dK D_Plan_leftOnForm 7 rfl) rfl ha3 (g_in _ _ _) (fun hc6 => ?_) (fun hc6 => ?_)
  · replace h := ifP h hc6
    obtain rfl := Option.some.inj h
    refine gL_weak (ls' := [(2, V a2)]) (sbc 2 rfl sbn) ?_
    exact hx ha2
  · replace h := ifN h hc6
    refine g_aloadn (pc := 12) (i0 := 0) (j := 0) (dK D_Plan_leftOnForm 8 rfl) rfl rfl ?_
    refine vg_getA (pc := 13) (ci := 4) (f := 3) (dK D_Plan_leftOnForm 9 rfl) q_313 hc0 (ltK rfl) (ltK rfl) rfl ?_
    refine g_iloadn (pc := 16) (i0 := 3) (j := 3) (dK D_Plan_leftOnForm 10 rfl) rfl rfl ?_
    refine gdE h (fun hi1 h => ?_)
    refine vg_iaload (pc := 17) (j := a3.toNat) (dK D_Plan_leftOnForm 11 rfl) (hw_4_3 hc0) rfl hi1 rfl ?_
    refine g_iloadn (pc := 18) (i0 := 1) (j := 1) (dK D_Plan_leftOnForm 12 rfl) rfl rfl ?_
    refine vg_icmp_ne (pc := 19) (t := 31) (dK D_Plan_leftOnForm 13 rfl) rfl (g_in _ _ _) ha1 (fun hc5 => ?_) (fun hc5 => ?_)
    · replace h := ifN h hc5
      refine nmE h (fun v2 e_v2 h => ?_)
      refine vg_iinc (pc := 31) (j := 3) (a := a3) (z := 1) (ls2 := [(3, V v2), (0, .ref c0), (1, V a1), (2, V a2)]) (dK D_Plan_leftOnForm 21 rfl) rfl e_v2 (ltK rfl) rfl ?_
      refine g_goto (pc := 34) (tgt := 4) (dK D_Plan_leftOnForm 22 rfl) rfl ?_
      refine gL_weak (ls' := [(0, .ref c0), (1, V a1), (2, V a2), (3, V v2)]) (sbc 1 rfl (sbc 2 rfl (sbc 3 rfl (sbc 0 rfl sbn)))) ?_
      replace h := ih _ h
      exact h ha2 (Vn_in e_v2)
    · replace h := ifP h hc5
      refine g_iloadn (pc := 22) (i0 := 2) (j := 2) (dK D_Plan_leftOnForm 14 rfl) rfl rfl ?_
      refine g_aloadn (pc := 23) (i0 := 0) (j := 0) (dK D_Plan_leftOnForm 15 rfl) rfl rfl ?_
      refine vg_getA (pc := 24) (ci := 4) (f := 5) (dK D_Plan_leftOnForm 16 rfl) q_318 hc0 (ltK rfl) (ltK rfl) rfl ?_
      refine g_iloadn (pc := 27) (i0 := 3) (j := 3) (dK D_Plan_leftOnForm 17 rfl) rfl rfl ?_
      refine vg_iaload (pc := 28) (j := a3.toNat) (dK D_Plan_leftOnForm 18 rfl) (hw_4_5 hc0) rfl hi1 rfl ?_
      refine vg_iadd (pc := 29) (dK D_Plan_leftOnForm 19 rfl) ?_
      refine nmE h (fun v3 e_v3 h => ?_)
      refine gtop e_v3 ?_
      refine g_istoren (pc := 30) (i0 := 2) (ls2 := [(2, V v3), (0, .ref c0), (1, V a1), (3, V a3)]) (dK D_Plan_leftOnForm 20 rfl) rfl (ltK rfl) rfl ?_
      refine nmE h (fun v4 e_v4 h => ?_)
      refine vg_iinc (pc := 31) (j := 3) (a := a3) (z := 1) (ls2 := [(3, V v4), (2, V v3), (0, .ref c0), (1, V a1)]) (dK D_Plan_leftOnForm 21 rfl) rfl e_v4 (ltK rfl) rfl ?_
      refine g_goto (pc := 34) (tgt := 4) (dK D_Plan_leftOnForm 22 rfl) rfl ?_
      refine gL_weak (ls' := [(0, .ref c0), (1, V a1), (2, V v3), (3, V v4)]) (sbc 2 rfl (sbc 3 rfl (sbc 1 rfl (sbc 0 rfl sbn)))) ?_
      replace h := ih _ h
      exact h (Vn_in e_v3) (Vn_in e_v4)
def fn_Plan_leftOnForm (c0 : Nat) (a1 : Int) (S : St) : Option (Int) := bnO (lo_Plan_leftOnForm_4 c0 a1 S FU (0, 1)) fun p7 => some p7
theorem tf_Plan_leftOnForm {E : EV} {X : XT} {c0 : Nat} (hc0 : HC X 4 c0) {a1 : Int} (ha1 : inR a1) {S : St} {q : Int} (h : fn_Plan_leftOnForm c0 a1 S = some q) : Ev E M_Plan_leftOnForm [.ref c0, V a1] (WX X S) 0 0 (KI X q S) := by
  refine Ev.of pn_Plan rfl (leK rfl) ?_
  show Go E M_Plan_leftOnForm 0 0 0 [(0, .ref c0), (1, V a1)] [] (WX X S) 0 0 (KI X q S)
  unfold fn_Plan_leftOnForm at h
  refine vg_iconst (pc := 0) (dK D_Plan_leftOnForm 0 rfl) ?_
  refine g_istoren (pc := 1) (i0 := 2) (ls2 := [(2, V 0), (0, .ref c0), (1, V a1)]) (dK D_Plan_leftOnForm 1 rfl) rfl (ltK rfl) rfl ?_
  refine vg_iconst (pc := 2) (dK D_Plan_leftOnForm 2 rfl) ?_
  refine g_istoren (pc := 3) (i0 := 3) (ls2 := [(3, V 1), (2, V 0), (0, .ref c0), (1, V a1)]) (dK D_Plan_leftOnForm 3 rfl) rfl (ltK rfl) rfl ?_
  refine bnE h (fun p7 e_p7 h => ?_)
  refine gL_weak (ls' := [(0, .ref c0), (1, V a1), (2, V 0), (3, V 1)]) (sbc 2 rfl (sbc 3 rfl (sbc 1 rfl (sbc 0 rfl sbn)))) ?_
  refine tl_Plan_leftOnForm_4 hc0 ha1 (fun hx2_p7 => ?_) FU (0, 1) e_p7 (inRk rfl) (inRk rfl)
  refine g_iloadn (pc := 37) (i0 := 2) (j := 0) (dK D_Plan_leftOnForm 23 rfl) rfl rfl ?_
  exact vg_iretI (pc := 38) (r := p7) (dK D_Plan_leftOnForm 24 rfl) rfl (leK rfl) (leK rfl) (fun _ => rfl) (by obtain rfl := Option.some.inj h; exact ⟨rfl, hx2_p7, rfl⟩)
def fn_Plan_formAt (c0 : Nat) (a1 : Int) (S : St) : Option (Int) := if a1 < 1 then (some (-1)) else (if (g S c0 1) < a1 then (some (-1)) else (if 0 ≤ a1 ∧ a1 < 65 then (some (g S (tgt c0 3) a1.toNat)) else none))
theorem tf_Plan_formAt {E : EV} {X : XT} {c0 : Nat} (hc0 : HC X 4 c0) {a1 : Int} (ha1 : inR a1) {S : St} {q : Int} (h : fn_Plan_formAt c0 a1 S = some q) : Ev E M_Plan_formAt [.ref c0, V a1] (WX X S) 0 0 (KI X q S) := by
  refine Ev.of pn_Plan rfl (leK rfl) ?_
  show Go E M_Plan_formAt 0 0 0 [(0, .ref c0), (1, V a1)] [] (WX X S) 0 0 (KI X q S)
  unfold fn_Plan_formAt at h
  refine g_iloadn (pc := 0) (i0 := 1) (j := 1) (dK D_Plan_formAt 0 rfl) rfl rfl ?_
  refine vg_iconst (pc := 1) (dK D_Plan_formAt 1 rfl) ?_
  refine vg_icmp_lt (pc := 2) (t := 22) (dK D_Plan_formAt 2 rfl) rfl ha1 (inRk rfl) (fun hc3 => ?_) (fun hc3 => ?_)
  · replace h := ifP h hc3
    refine vg_iconst (pc := 22) (dK D_Plan_formAt 12 rfl) ?_
    exact vg_iretI (pc := 23) (r := (-1)) (dK D_Plan_formAt 13 rfl) rfl (leK rfl) (leK rfl) (fun _ => rfl) (by obtain rfl := Option.some.inj h; exact ⟨rfl, (inRk rfl), rfl⟩)
  · replace h := ifN h hc3
    refine g_iloadn (pc := 5) (i0 := 1) (j := 1) (dK D_Plan_formAt 3 rfl) rfl rfl ?_
    refine g_aloadn (pc := 6) (i0 := 0) (j := 0) (dK D_Plan_formAt 4 rfl) rfl rfl ?_
    refine vg_getI (pc := 7) (ci := 4) (f := 1) (dK D_Plan_formAt 5 rfl) q_305 hc0 (ltK rfl) (ltK rfl) rfl ?_
    refine vg_icmp_gt (pc := 10) (t := 22) (dK D_Plan_formAt 6 rfl) rfl ha1 (g_in _ _ _) (fun hc2 => ?_) (fun hc2 => ?_)
    · replace h := ifP h hc2
      refine vg_iconst (pc := 22) (dK D_Plan_formAt 12 rfl) ?_
      exact vg_iretI (pc := 23) (r := (-1)) (dK D_Plan_formAt 13 rfl) rfl (leK rfl) (leK rfl) (fun _ => rfl) (by obtain rfl := Option.some.inj h; exact ⟨rfl, (inRk rfl), rfl⟩)
    · replace h := ifN h hc2
      refine g_aloadn (pc := 13) (i0 := 0) (j := 0) (dK D_Plan_formAt 7 rfl) rfl rfl ?_
      refine vg_getA (pc := 14) (ci := 4) (f := 3) (dK D_Plan_formAt 8 rfl) q_313 hc0 (ltK rfl) (ltK rfl) rfl ?_
      refine g_iloadn (pc := 17) (i0 := 1) (j := 1) (dK D_Plan_formAt 9 rfl) rfl rfl ?_
      refine gdE h (fun hi1 h => ?_)
      refine vg_iaload (pc := 18) (j := a1.toNat) (dK D_Plan_formAt 10 rfl) (hw_4_3 hc0) rfl hi1 rfl ?_
      refine g_goto (pc := 19) (tgt := 23) (dK D_Plan_formAt 11 rfl) rfl ?_
      exact vg_iretI (pc := 23) (r := (g S (tgt c0 3) a1.toNat)) (dK D_Plan_formAt 13 rfl) rfl (leK rfl) (leK rfl) (fun _ => rfl) (by obtain rfl := Option.some.inj h; exact ⟨rfl, (g_in _ _ _), rfl⟩)
def lb_Plan_adsOnForm_4 (c0 : Nat) (a1 : Int) (S : St) (go : Int × Int → Option (Int)) (a2 : Int) (a3 : Int) : Option (Int) := if (g S (tgt (tgt c0 0) 0) 7) ≤ a3 then (some a2) else (if 0 ≤ a3 ∧ a3 < 40 then (bnO (fn_Plan_formAt c0 (g S (tgt (tgt (tgt c0 0) 0) 6) a3.toNat) S) fun p2 => if p2 = a1 then (nm (wr (a2 + 1)) fun v4 => nm (wr (a3 + 1)) fun v5 => go (v4, v5)) else (nm (wr (a3 + 1)) fun v3 => go (a2, v3))) else none)
def lo_Plan_adsOnForm_4 (c0 : Nat) (a1 : Int) (S : St) : Nat → Int × Int → Option (Int) := lp fun go p => lb_Plan_adsOnForm_4 c0 a1 S go p.1 p.2
theorem tl_Plan_adsOnForm_4 {E : EV} {X : XT} {c0 : Nat} (hc0 : HC X 4 c0) {a1 : Int} (ha1 : inR a1) {S : St} {K : RK → PS → Prop} {q : Int} (hx : inR q → Go E M_Plan_adsOnForm 0 0 47 [(2, V q)] [] (WX X S) 0 0 K) : ∀ n a, lo_Plan_adsOnForm_4 c0 a1 S n a = some q → inR a.1 → inR a.2 → Go E M_Plan_adsOnForm 0 0 4 [(0, .ref c0), (1, V a1), (2, V a.1), (3, V a.2)] [] (WX X S) 0 0 K := by
  refine lp_ind (P := fun a : Int × Int => inR a.1 → inR a.2 → Go E M_Plan_adsOnForm 0 0 4 [(0, .ref c0), (1, V a1), (2, V a.1), (3, V a.2)] [] (WX X S) 0 0 K) (fun go ih a h => ?_)
  obtain ⟨a2, a3⟩ := a
  intro ha2 ha3
  show Go E M_Plan_adsOnForm 0 0 4 [(0, .ref c0), (1, V a1), (2, V a2), (3, V a3)] [] (WX X S) 0 0 K
  replace h : lb_Plan_adsOnForm_4 c0 a1 S go a2 a3 = some q := h
  unfold lb_Plan_adsOnForm_4 at h
  refine g_iloadn (pc := 4) (i0 := 3) (j := 3) (dK D_Plan_adsOnForm 4 rfl) rfl rfl ?_
  refine g_aloadn (pc := 5) (i0 := 0) (j := 0) (dK D_Plan_adsOnForm 5 rfl) rfl rfl ?_
  refine vg_getO (pc := 6) (ci := 4) (f := 0) (dK D_Plan_adsOnForm 6 rfl) q_301 hc0 (ltK rfl) (ltK rfl) rfl ?_
  refine vg_getO (pc := 9) (ci := 8) (f := 0) (dK D_Plan_adsOnForm 7 rfl) q_233 (hw_4_0 hc0) (ltK rfl) (ltK rfl) rfl ?_
  refine vg_getI (pc := 12) (ci := 0) (f := 7) (dK D_Plan_adsOnForm 8 rfl) q_118 (hw_8_0 (hw_4_0 hc0)) (ltK rfl) (ltK rfl) rfl ?_
  refine vg_icmp_ge (pc := 15) (t := 47) (dK D_Plan_adsOnForm 9 rfl) rfl ha3 (g_in _ _ _) (fun hc7 => ?_) (fun hc7 => ?_)
  · replace h := ifP h hc7
    obtain rfl := Option.some.inj h
    refine gL_weak (ls' := [(2, V a2)]) (sbc 2 rfl sbn) ?_
    exact hx ha2
  · replace h := ifN h hc7
    refine g_aloadn (pc := 18) (i0 := 0) (j := 0) (dK D_Plan_adsOnForm 10 rfl) rfl rfl ?_
    refine g_aloadn (pc := 19) (i0 := 0) (j := 0) (dK D_Plan_adsOnForm 11 rfl) rfl rfl ?_
    refine vg_getO (pc := 20) (ci := 4) (f := 0) (dK D_Plan_adsOnForm 12 rfl) q_301 hc0 (ltK rfl) (ltK rfl) rfl ?_
    refine vg_getO (pc := 23) (ci := 8) (f := 0) (dK D_Plan_adsOnForm 13 rfl) q_233 (hw_4_0 hc0) (ltK rfl) (ltK rfl) rfl ?_
    refine vg_getA (pc := 26) (ci := 0) (f := 6) (dK D_Plan_adsOnForm 14 rfl) q_113 (hw_8_0 (hw_4_0 hc0)) (ltK rfl) (ltK rfl) rfl ?_
    refine g_iloadn (pc := 29) (i0 := 3) (j := 3) (dK D_Plan_adsOnForm 15 rfl) rfl rfl ?_
    refine gdE h (fun hi1 h => ?_)
    refine vg_iaload (pc := 30) (j := a3.toNat) (dK D_Plan_adsOnForm 16 rfl) (hw_0_6 (hw_8_0 (hw_4_0 hc0))) rfl hi1 rfl ?_
    refine bnE h (fun p2 e_p2 h => ?_)
    refine vg_cV (pc := 31) (As := [V (g S (tgt (tgt (tgt c0 0) 0) 6) a3.toNat)]) (rest := []) (mc' := 0) (ms' := 0) (dK D_Plan_adsOnForm 17 rfl) K_Plan_173 (fitK rfl) (ltK rfl) hc0 rfl (leK rfl) (leK rfl) (leK rfl) (tf_Plan_formAt hc0 (g_in _ _ _) e_p2) (kcI (fun h_p2 => ?_))
    refine g_iloadn (pc := 34) (i0 := 1) (j := 1) (dK D_Plan_adsOnForm 18 rfl) rfl rfl ?_
    refine vg_icmp_ne (pc := 35) (t := 41) (dK D_Plan_adsOnForm 19 rfl) rfl h_p2 ha1 (fun hc6 => ?_) (fun hc6 => ?_)
    · replace h := ifN h hc6
      refine nmE h (fun v3 e_v3 h => ?_)
      refine vg_iinc (pc := 41) (j := 3) (a := a3) (z := 1) (ls2 := [(3, V v3), (0, .ref c0), (1, V a1), (2, V a2)]) (dK D_Plan_adsOnForm 21 rfl) rfl e_v3 (ltK rfl) rfl ?_
      refine g_goto (pc := 44) (tgt := 4) (dK D_Plan_adsOnForm 22 rfl) rfl ?_
      refine gL_weak (ls' := [(0, .ref c0), (1, V a1), (2, V a2), (3, V v3)]) (sbc 1 rfl (sbc 2 rfl (sbc 3 rfl (sbc 0 rfl sbn)))) ?_
      replace h := ih _ h
      exact h ha2 (Vn_in e_v3)
    · replace h := ifP h hc6
      refine nmE h (fun v4 e_v4 h => ?_)
      refine vg_iinc (pc := 38) (j := 2) (a := a2) (z := 1) (ls2 := [(2, V v4), (0, .ref c0), (1, V a1), (3, V a3)]) (dK D_Plan_adsOnForm 20 rfl) rfl e_v4 (ltK rfl) rfl ?_
      refine nmE h (fun v5 e_v5 h => ?_)
      refine vg_iinc (pc := 41) (j := 3) (a := a3) (z := 1) (ls2 := [(3, V v5), (2, V v4), (0, .ref c0), (1, V a1)]) (dK D_Plan_adsOnForm 21 rfl) rfl e_v5 (ltK rfl) rfl ?_
      refine g_goto (pc := 44) (tgt := 4) (dK D_Plan_adsOnForm 22 rfl) rfl ?_
      refine gL_weak (ls' := [(0, .ref c0), (1, V a1), (2, V v4), (3, V v5)]) (sbc 2 rfl (sbc 3 rfl (sbc 1 rfl (sbc 0 rfl sbn)))) ?_
      replace h := ih _ h
      exact h (Vn_in e_v4) (Vn_in e_v5)
def fn_Plan_adsOnForm (c0 : Nat) (a1 : Int) (S : St) : Option (Int) := bnO (lo_Plan_adsOnForm_4 c0 a1 S FU (0, 0)) fun p8 => some p8
theorem tf_Plan_adsOnForm {E : EV} {X : XT} {c0 : Nat} (hc0 : HC X 4 c0) {a1 : Int} (ha1 : inR a1) {S : St} {q : Int} (h : fn_Plan_adsOnForm c0 a1 S = some q) : Ev E M_Plan_adsOnForm [.ref c0, V a1] (WX X S) 0 0 (KI X q S) := by
  refine Ev.of pn_Plan rfl (leK rfl) ?_
  show Go E M_Plan_adsOnForm 0 0 0 [(0, .ref c0), (1, V a1)] [] (WX X S) 0 0 (KI X q S)
  unfold fn_Plan_adsOnForm at h
  refine vg_iconst (pc := 0) (dK D_Plan_adsOnForm 0 rfl) ?_
  refine g_istoren (pc := 1) (i0 := 2) (ls2 := [(2, V 0), (0, .ref c0), (1, V a1)]) (dK D_Plan_adsOnForm 1 rfl) rfl (ltK rfl) rfl ?_
  refine vg_iconst (pc := 2) (dK D_Plan_adsOnForm 2 rfl) ?_
  refine g_istoren (pc := 3) (i0 := 3) (ls2 := [(3, V 0), (2, V 0), (0, .ref c0), (1, V a1)]) (dK D_Plan_adsOnForm 3 rfl) rfl (ltK rfl) rfl ?_
  refine bnE h (fun p8 e_p8 h => ?_)
  refine gL_weak (ls' := [(0, .ref c0), (1, V a1), (2, V 0), (3, V 0)]) (sbc 2 rfl (sbc 3 rfl (sbc 1 rfl (sbc 0 rfl sbn)))) ?_
  refine tl_Plan_adsOnForm_4 hc0 ha1 (fun hx2_p8 => ?_) FU (0, 0) e_p8 (inRk rfl) (inRk rfl)
  refine g_iloadn (pc := 47) (i0 := 2) (j := 0) (dK D_Plan_adsOnForm 23 rfl) rfl rfl ?_
  exact vg_iretI (pc := 48) (r := p8) (dK D_Plan_adsOnForm 24 rfl) rfl (leK rfl) (leK rfl) (fun _ => rfl) (by obtain rfl := Option.some.inj h; exact ⟨rfl, hx2_p8, rfl⟩)
def lb_Plan_storyIsOn_16 (c0 : Nat) (a1 : Int) (a2 : Int) (a3 : Int) (S : St) (go : Int → Option ((Bool) ⊕ (Unit))) (a4 : Int) : Option ((Bool) ⊕ (Unit)) := if a3 = 0 then (some (.inr ())) else (if 0 ≤ a1 ∧ a1 < 10 then (if (g S (tgt (tgt (tgt c0 0) 1) 0) a1.toNat) ≤ a4 then (some (.inr ())) else (nm (wr (a3 + a4)) fun v3 => bnO (fn_Plan_formAt c0 v3 S) fun p4 => if p4 = a2 then (some (.inl true)) else (nm (wr (a4 + 1)) fun v5 => go v5))) else none)
def lo_Plan_storyIsOn_16 (c0 : Nat) (a1 : Int) (a2 : Int) (a3 : Int) (S : St) : Nat → Int → Option ((Bool) ⊕ (Unit)) := lp fun go p => lb_Plan_storyIsOn_16 c0 a1 a2 a3 S go p
theorem tl_Plan_storyIsOn_16 {E : EV} {X : XT} {c0 : Nat} (hc0 : HC X 4 c0) {a1 : Int} (ha1 : inR a1) {a2 : Int} (ha2 : inR a2) {a3 : Int} (ha3 : inR a3) {S : St} {K : RK → PS → Prop} {q : (Bool) ⊕ (Unit)} (hx : ∀ p, q = .inr p → Go E M_Plan_storyIsOn 0 0 57 [] [] (WX X S) 0 0 K) (hr : ∀ p, q = .inl p → K (.inl (some (V (bi p)))) (WX X S)) : ∀ n a, lo_Plan_storyIsOn_16 c0 a1 a2 a3 S n a = some q → inR a → Go E M_Plan_storyIsOn 0 0 16 [(0, .ref c0), (1, V a1), (2, V a2), (3, V a3), (4, V a)] [] (WX X S) 0 0 K := by
  refine lp_ind (P := fun a : Int => inR a → Go E M_Plan_storyIsOn 0 0 16 [(0, .ref c0), (1, V a1), (2, V a2), (3, V a3), (4, V a)] [] (WX X S) 0 0 K) (fun go ih a4 h => ?_)
  intro ha4
  show Go E M_Plan_storyIsOn 0 0 16 [(0, .ref c0), (1, V a1), (2, V a2), (3, V a3), (4, V a4)] [] (WX X S) 0 0 K
  replace h : lb_Plan_storyIsOn_16 c0 a1 a2 a3 S go a4 = some q := h
  unfold lb_Plan_storyIsOn_16 at h
  refine g_iloadn (pc := 16) (i0 := 3) (j := 3) (dK D_Plan_storyIsOn 9 rfl) rfl rfl ?_
  refine vg_if_eq (pc := 17) (t := 57) (dK D_Plan_storyIsOn 10 rfl) rfl ha3 (fun hc8 => ?_) (fun hc8 => ?_)
  · replace h := ifP h hc8
    refine gL_weak (ls' := []) sbn ?_
    exact hx _ (Option.some.inj h).symm 
  · replace h := ifN h hc8
    refine g_iload (pc := 20) (j := 4) (dK D_Plan_storyIsOn 11 rfl) rfl ?_
    refine g_aloadn (pc := 22) (i0 := 0) (j := 0) (dK D_Plan_storyIsOn 12 rfl) rfl rfl ?_
    refine vg_getO (pc := 23) (ci := 4) (f := 0) (dK D_Plan_storyIsOn 13 rfl) q_301 hc0 (ltK rfl) (ltK rfl) rfl ?_
    refine vg_getO (pc := 26) (ci := 8) (f := 1) (dK D_Plan_storyIsOn 14 rfl) q_237 (hw_4_0 hc0) (ltK rfl) (ltK rfl) rfl ?_
    refine vg_getA (pc := 29) (ci := 9) (f := 0) (dK D_Plan_storyIsOn 15 rfl) q_146 (hw_8_1 (hw_4_0 hc0)) (ltK rfl) (ltK rfl) rfl ?_
    refine g_iloadn (pc := 32) (i0 := 1) (j := 1) (dK D_Plan_storyIsOn 16 rfl) rfl rfl ?_
    refine gdE h (fun hi2 h => ?_)
    refine vg_iaload (pc := 33) (j := a1.toNat) (dK D_Plan_storyIsOn 17 rfl) (hw_9_0 (hw_8_1 (hw_4_0 hc0))) rfl hi2 rfl ?_
    refine vg_icmp_ge (pc := 34) (t := 57) (dK D_Plan_storyIsOn 18 rfl) rfl ha4 (g_in _ _ _) (fun hc7 => ?_) (fun hc7 => ?_)
    · replace h := ifP h hc7
      refine gL_weak (ls' := []) sbn ?_
      exact hx _ (Option.some.inj h).symm 
    · replace h := ifN h hc7
      refine g_aloadn (pc := 37) (i0 := 0) (j := 0) (dK D_Plan_storyIsOn 19 rfl) rfl rfl ?_
      refine g_iloadn (pc := 38) (i0 := 3) (j := 3) (dK D_Plan_storyIsOn 20 rfl) rfl rfl ?_
      refine g_iload (pc := 39) (j := 4) (dK D_Plan_storyIsOn 21 rfl) rfl ?_
      refine vg_iadd (pc := 41) (dK D_Plan_storyIsOn 22 rfl) ?_
      refine nmE h (fun v3 e_v3 h => ?_)
      refine gtop e_v3 ?_
      refine bnE h (fun p4 e_p4 h => ?_)
      refine vg_cV (pc := 42) (As := [V v3]) (rest := []) (mc' := 0) (ms' := 0) (dK D_Plan_storyIsOn 23 rfl) K_Plan_173 (fitK rfl) (ltK rfl) hc0 rfl (leK rfl) (leK rfl) (leK rfl) (tf_Plan_formAt hc0 (Vn_in e_v3) e_p4) (kcI (fun h_p4 => ?_))
      refine g_iloadn (pc := 45) (i0 := 2) (j := 2) (dK D_Plan_storyIsOn 24 rfl) rfl rfl ?_
      refine vg_icmp_ne (pc := 46) (t := 51) (dK D_Plan_storyIsOn 25 rfl) rfl h_p4 ha2 (fun hc6 => ?_) (fun hc6 => ?_)
      · replace h := ifN h hc6
        refine nmE h (fun v5 e_v5 h => ?_)
        refine vg_iinc (pc := 51) (j := 4) (a := a4) (z := 1) (ls2 := [(4, V v5), (0, .ref c0), (1, V a1), (2, V a2), (3, V a3)]) (dK D_Plan_storyIsOn 28 rfl) rfl e_v5 (ltK rfl) rfl ?_
        refine g_goto (pc := 54) (tgt := 16) (dK D_Plan_storyIsOn 29 rfl) rfl ?_
        refine gL_weak (ls' := [(0, .ref c0), (1, V a1), (2, V a2), (3, V a3), (4, V v5)]) (sbc 1 rfl (sbc 2 rfl (sbc 3 rfl (sbc 4 rfl (sbc 0 rfl sbn))))) ?_
        replace h := ih _ h
        exact h (Vn_in e_v5)
      · replace h := ifP h hc6
        refine vg_iconst (pc := 49) (dK D_Plan_storyIsOn 26 rfl) ?_
        exact vg_iretB (pc := 50) (b := true) (dK D_Plan_storyIsOn 27 rfl) rfl (leK rfl) (leK rfl) (fun _ => rfl) (hr _ (Option.some.inj h).symm)
def fn_Plan_storyIsOn (c0 : Nat) (a1 : Int) (a2 : Int) (S : St) : Option (Bool) := if 0 ≤ a1 ∧ a1 < 10 then (bnS (lo_Plan_storyIsOn_16 c0 a1 a2 (g S (tgt (tgt (tgt c0 0) 1) 4) a1.toNat) S FU 0) (fun p10 => some p10) fun p9 => some false) else none
theorem tf_Plan_storyIsOn {E : EV} {X : XT} {c0 : Nat} (hc0 : HC X 4 c0) {a1 : Int} (ha1 : inR a1) {a2 : Int} (ha2 : inR a2) {S : St} {q : Bool} (h : fn_Plan_storyIsOn c0 a1 a2 S = some q) : Ev E M_Plan_storyIsOn [.ref c0, V a1, V a2] (WX X S) 0 0 (KB X q S) := by
  refine Ev.of pn_Plan rfl (leK rfl) ?_
  show Go E M_Plan_storyIsOn 0 0 0 [(0, .ref c0), (1, V a1), (2, V a2)] [] (WX X S) 0 0 (KB X q S)
  unfold fn_Plan_storyIsOn at h
  refine g_aloadn (pc := 0) (i0 := 0) (j := 0) (dK D_Plan_storyIsOn 0 rfl) rfl rfl ?_
  refine vg_getO (pc := 1) (ci := 4) (f := 0) (dK D_Plan_storyIsOn 1 rfl) q_301 hc0 (ltK rfl) (ltK rfl) rfl ?_
  refine vg_getO (pc := 4) (ci := 8) (f := 1) (dK D_Plan_storyIsOn 2 rfl) q_237 (hw_4_0 hc0) (ltK rfl) (ltK rfl) rfl ?_
  refine vg_getA (pc := 7) (ci := 9) (f := 4) (dK D_Plan_storyIsOn 3 rfl) q_161 (hw_8_1 (hw_4_0 hc0)) (ltK rfl) (ltK rfl) rfl ?_
  refine g_iloadn (pc := 10) (i0 := 1) (j := 1) (dK D_Plan_storyIsOn 4 rfl) rfl rfl ?_
  refine gdE h (fun hi1 h => ?_)
  refine vg_iaload (pc := 11) (j := a1.toNat) (dK D_Plan_storyIsOn 5 rfl) (hw_9_4 (hw_8_1 (hw_4_0 hc0))) rfl hi1 rfl ?_
  refine g_istoren (pc := 12) (i0 := 3) (ls2 := [(3, V (g S (tgt (tgt (tgt c0 0) 1) 4) a1.toNat)), (0, .ref c0), (1, V a1), (2, V a2)]) (dK D_Plan_storyIsOn 6 rfl) rfl (ltK rfl) rfl ?_
  refine vg_iconst (pc := 13) (dK D_Plan_storyIsOn 7 rfl) ?_
  refine g_istore (pc := 14) (ls2 := [(4, V 0), (3, V (g S (tgt (tgt (tgt c0 0) 1) 4) a1.toNat)), (0, .ref c0), (1, V a1), (2, V a2)]) (dK D_Plan_storyIsOn 8 rfl) (ltK rfl) rfl ?_
  refine bnSE h (fun p10 e_p10 h => ?_) (fun p9 e_p9 h => ?_)
  · refine gL_weak (ls' := [(0, .ref c0), (1, V a1), (2, V a2), (3, V (g S (tgt (tgt (tgt c0 0) 1) 4) a1.toNat)), (4, V 0)]) (sbc 2 rfl (sbc 3 rfl (sbc 4 rfl (sbc 1 rfl (sbc 0 rfl sbn))))) ?_
    refine tl_Plan_storyIsOn_16 hc0 ha1 ha2 (g_in _ _ _) (fun _ e => slr e) (fun p e => ?_) FU 0 e_p10 (inRk rfl)
    have e := Sum.inl.inj e
    subst e
    exact (by obtain rfl := Option.some.inj h; exact ⟨rfl, rfl⟩)
  · refine gL_weak (ls' := [(0, .ref c0), (1, V a1), (2, V a2), (3, V (g S (tgt (tgt (tgt c0 0) 1) 4) a1.toNat)), (4, V 0)]) (sbc 2 rfl (sbc 3 rfl (sbc 4 rfl (sbc 1 rfl (sbc 0 rfl sbn))))) ?_
    refine tl_Plan_storyIsOn_16 hc0 ha1 ha2 (g_in _ _ _) (fun p e => ?_) (fun _ e => srl e) FU 0 e_p9 (inRk rfl)
    have e := Sum.inr.inj e
    subst e
    refine vg_iconst (pc := 57) (dK D_Plan_storyIsOn 30 rfl) ?_
    exact vg_iretB (pc := 58) (b := false) (dK D_Plan_storyIsOn 31 rfl) rfl (leK rfl) (leK rfl) (fun _ => rfl) (by obtain rfl := Option.some.inj h; exact ⟨rfl, rfl⟩)
def lb_Plan_lateOnForm_4 (c0 : Nat) (a1 : Int) (S : St) (go : Int × Int → Option (Int)) (a2 : Int) (a3 : Int) : Option (Int) := if (g S (tgt (tgt c0 0) 0) 7) ≤ a3 then (some a2) else (if 0 ≤ a3 ∧ a3 < 40 then (bnO (fn_Plan_formAt c0 (g S (tgt (tgt (tgt c0 0) 0) 6) a3.toNat) S) fun p2 => if p2 = a1 then (bnO (fn_Plan_isLate c0 (g S (tgt (tgt (tgt c0 0) 0) 5) a3.toNat) S) fun p4 => if p4 = true then (nm (wr (a2 + 1)) fun v7 => nm (wr (a3 + 1)) fun v8 => go (v7, v8)) else (nm (wr (a3 + 1)) fun v6 => go (a2, v6))) else (nm (wr (a3 + 1)) fun v3 => go (a2, v3))) else none)
def lo_Plan_lateOnForm_4 (c0 : Nat) (a1 : Int) (S : St) : Nat → Int × Int → Option (Int) := lp fun go p => lb_Plan_lateOnForm_4 c0 a1 S go p.1 p.2
theorem tl_Plan_lateOnForm_4 {E : EV} {X : XT} {c0 : Nat} (hc0 : HC X 4 c0) {a1 : Int} (ha1 : inR a1) {S : St} {K : RK → PS → Prop} {q : Int} (hx : inR q → Go E M_Plan_lateOnForm 0 0 66 [(0, .ref c0), (1, V a1), (2, V q)] [] (WX X S) 0 0 K) : ∀ n a, lo_Plan_lateOnForm_4 c0 a1 S n a = some q → inR a.1 → inR a.2 → Go E M_Plan_lateOnForm 0 0 4 [(0, .ref c0), (1, V a1), (2, V a.1), (3, V a.2)] [] (WX X S) 0 0 K := by
  refine lp_ind (P := fun a : Int × Int => inR a.1 → inR a.2 → Go E M_Plan_lateOnForm 0 0 4 [(0, .ref c0), (1, V a1), (2, V a.1), (3, V a.2)] [] (WX X S) 0 0 K) (fun go ih a h => ?_)
  obtain ⟨a2, a3⟩ := a
  intro ha2 ha3
  show Go E M_Plan_lateOnForm 0 0 4 [(0, .ref c0), (1, V a1), (2, V a2), (3, V a3)] [] (WX X S) 0 0 K
  replace h : lb_Plan_lateOnForm_4 c0 a1 S go a2 a3 = some q := h
  unfold lb_Plan_lateOnForm_4 at h
  refine g_iloadn (pc := 4) (i0 := 3) (j := 3) (dK D_Plan_lateOnForm_0 4 rfl) rfl rfl ?_
  refine g_aloadn (pc := 5) (i0 := 0) (j := 0) (dK D_Plan_lateOnForm_0 5 rfl) rfl rfl ?_
  refine vg_getO (pc := 6) (ci := 4) (f := 0) (dK D_Plan_lateOnForm_0 6 rfl) q_301 hc0 (ltK rfl) (ltK rfl) rfl ?_
  refine vg_getO (pc := 9) (ci := 8) (f := 0) (dK D_Plan_lateOnForm_0 7 rfl) q_233 (hw_4_0 hc0) (ltK rfl) (ltK rfl) rfl ?_
  refine vg_getI (pc := 12) (ci := 0) (f := 7) (dK D_Plan_lateOnForm_0 8 rfl) q_118 (hw_8_0 (hw_4_0 hc0)) (ltK rfl) (ltK rfl) rfl ?_
  refine vg_icmp_ge (pc := 15) (t := 66) (dK D_Plan_lateOnForm_0 9 rfl) rfl ha3 (g_in _ _ _) (fun hc10 => ?_) (fun hc10 => ?_)
  · replace h := ifP h hc10
    obtain rfl := Option.some.inj h
    refine gL_weak (ls' := [(0, .ref c0), (1, V a1), (2, V a2)]) (sbc 0 rfl (sbc 1 rfl (sbc 2 rfl sbn))) ?_
    exact hx ha2
  · replace h := ifN h hc10
    refine g_aloadn (pc := 18) (i0 := 0) (j := 0) (dK D_Plan_lateOnForm_0 10 rfl) rfl rfl ?_
    refine g_aloadn (pc := 19) (i0 := 0) (j := 0) (dK D_Plan_lateOnForm_0 11 rfl) rfl rfl ?_
    refine vg_getO (pc := 20) (ci := 4) (f := 0) (dK D_Plan_lateOnForm_0 12 rfl) q_301 hc0 (ltK rfl) (ltK rfl) rfl ?_
    refine vg_getO (pc := 23) (ci := 8) (f := 0) (dK D_Plan_lateOnForm_0 13 rfl) q_233 (hw_4_0 hc0) (ltK rfl) (ltK rfl) rfl ?_
    refine vg_getA (pc := 26) (ci := 0) (f := 6) (dK D_Plan_lateOnForm_0 14 rfl) q_113 (hw_8_0 (hw_4_0 hc0)) (ltK rfl) (ltK rfl) rfl ?_
    refine g_iloadn (pc := 29) (i0 := 3) (j := 3) (dK D_Plan_lateOnForm_0 15 rfl) rfl rfl ?_
    refine gdE h (fun hi1 h => ?_)
    refine vg_iaload (pc := 30) (j := a3.toNat) (dK D_Plan_lateOnForm_0 16 rfl) (hw_0_6 (hw_8_0 (hw_4_0 hc0))) rfl hi1 rfl ?_
    refine bnE h (fun p2 e_p2 h => ?_)
    refine vg_cV (pc := 31) (As := [V (g S (tgt (tgt (tgt c0 0) 0) 6) a3.toNat)]) (rest := []) (mc' := 0) (ms' := 0) (dK D_Plan_lateOnForm_0 17 rfl) K_Plan_173 (fitK rfl) (ltK rfl) hc0 rfl (leK rfl) (leK rfl) (leK rfl) (tf_Plan_formAt hc0 (g_in _ _ _) e_p2) (kcI (fun h_p2 => ?_))
    refine g_iloadn (pc := 34) (i0 := 1) (j := 1) (dK D_Plan_lateOnForm_0 18 rfl) rfl rfl ?_
    refine vg_icmp_ne (pc := 35) (t := 60) (dK D_Plan_lateOnForm_0 19 rfl) rfl h_p2 ha1 (fun hc9 => ?_) (fun hc9 => ?_)
    · replace h := ifN h hc9
      refine nmE h (fun v3 e_v3 h => ?_)
      refine vg_iinc (pc := 60) (j := 3) (a := a3) (z := 1) (ls2 := [(3, V v3), (0, .ref c0), (1, V a1), (2, V a2)]) (dK D_Plan_lateOnForm_0 30 rfl) rfl e_v3 (ltK rfl) rfl ?_
      refine g_goto (pc := 63) (tgt := 4) (dK D_Plan_lateOnForm_0 31 rfl) rfl ?_
      refine gL_weak (ls' := [(0, .ref c0), (1, V a1), (2, V a2), (3, V v3)]) (sbc 1 rfl (sbc 2 rfl (sbc 3 rfl (sbc 0 rfl sbn)))) ?_
      replace h := ih _ h
      exact h ha2 (Vn_in e_v3)
    · replace h := ifP h hc9
      refine g_aloadn (pc := 38) (i0 := 0) (j := 0) (dK D_Plan_lateOnForm_0 20 rfl) rfl rfl ?_
      refine g_aloadn (pc := 39) (i0 := 0) (j := 0) (dK D_Plan_lateOnForm_0 21 rfl) rfl rfl ?_
      refine vg_getO (pc := 40) (ci := 4) (f := 0) (dK D_Plan_lateOnForm_0 22 rfl) q_301 hc0 (ltK rfl) (ltK rfl) rfl ?_
      refine vg_getO (pc := 43) (ci := 8) (f := 0) (dK D_Plan_lateOnForm_0 23 rfl) q_233 (hw_4_0 hc0) (ltK rfl) (ltK rfl) rfl ?_
      refine vg_getA (pc := 46) (ci := 0) (f := 5) (dK D_Plan_lateOnForm_0 24 rfl) q_110 (hw_8_0 (hw_4_0 hc0)) (ltK rfl) (ltK rfl) rfl ?_
      refine g_iloadn (pc := 49) (i0 := 3) (j := 3) (dK D_Plan_lateOnForm_0 25 rfl) rfl rfl ?_
      refine vg_iaload (pc := 50) (j := a3.toNat) (dK D_Plan_lateOnForm_0 26 rfl) (hw_0_5 (hw_8_0 (hw_4_0 hc0))) rfl hi1 rfl ?_
      refine bnE h (fun p4 e_p4 h => ?_)
      refine vg_cV (pc := 51) (As := [V (g S (tgt (tgt (tgt c0 0) 0) 5) a3.toNat)]) (rest := []) (mc' := 0) (ms' := 0) (dK D_Plan_lateOnForm_0 27 rfl) K_Plan_186 (fitK rfl) (ltK rfl) hc0 rfl (leK rfl) (leK rfl) (leK rfl) (tf_Plan_isLate hc0 (g_in _ _ _) e_p4) (kcB ?_)
      refine vg_ifB_eq (pc := 54) (b := p4) (t := 60) (dK D_Plan_lateOnForm_0 28 rfl) rfl (fun hc5 => ?_) (fun hc5 => ?_)
      · replace h := ifP h hc5
        refine nmE h (fun v7 e_v7 h => ?_)
        refine vg_iinc (pc := 57) (j := 2) (a := a2) (z := 1) (ls2 := [(2, V v7), (0, .ref c0), (1, V a1), (3, V a3)]) (dK D_Plan_lateOnForm_0 29 rfl) rfl e_v7 (ltK rfl) rfl ?_
        refine nmE h (fun v8 e_v8 h => ?_)
        refine vg_iinc (pc := 60) (j := 3) (a := a3) (z := 1) (ls2 := [(3, V v8), (2, V v7), (0, .ref c0), (1, V a1)]) (dK D_Plan_lateOnForm_0 30 rfl) rfl e_v8 (ltK rfl) rfl ?_
        refine g_goto (pc := 63) (tgt := 4) (dK D_Plan_lateOnForm_0 31 rfl) rfl ?_
        refine gL_weak (ls' := [(0, .ref c0), (1, V a1), (2, V v7), (3, V v8)]) (sbc 2 rfl (sbc 3 rfl (sbc 1 rfl (sbc 0 rfl sbn)))) ?_
        replace h := ih _ h
        exact h (Vn_in e_v7) (Vn_in e_v8)
      · replace h := ifN h hc5
        refine nmE h (fun v6 e_v6 h => ?_)
        refine vg_iinc (pc := 60) (j := 3) (a := a3) (z := 1) (ls2 := [(3, V v6), (0, .ref c0), (1, V a1), (2, V a2)]) (dK D_Plan_lateOnForm_0 30 rfl) rfl e_v6 (ltK rfl) rfl ?_
        refine g_goto (pc := 63) (tgt := 4) (dK D_Plan_lateOnForm_0 31 rfl) rfl ?_
        refine gL_weak (ls' := [(0, .ref c0), (1, V a1), (2, V a2), (3, V v6)]) (sbc 1 rfl (sbc 2 rfl (sbc 3 rfl (sbc 0 rfl sbn)))) ?_
        replace h := ih _ h
        exact h ha2 (Vn_in e_v6)
def lb_Plan_lateOnForm_68 (c0 : Nat) (a1 : Int) (S : St) (go : Int × Int → Option (Int)) (a2 : Int) (a3 : Int) : Option (Int) := if (g S (tgt (tgt c0 0) 1) 5) ≤ a3 then (some a2) else (if 0 ≤ a3 ∧ a3 < 10 then (bnO (fn_Plan_isLate c0 (g S (tgt (tgt (tgt c0 0) 1) 3) a3.toNat) S) fun p13 => if p13 = true then (bnO (fn_Plan_storyIsOn c0 a3 a1 S) fun p16 => if p16 = true then (nm (wr (a2 + 1)) fun v19 => nm (wr (a3 + 1)) fun v20 => go (v19, v20)) else (nm (wr (a3 + 1)) fun v18 => go (a2, v18))) else (nm (wr (a3 + 1)) fun v15 => go (a2, v15))) else none)
def lo_Plan_lateOnForm_68 (c0 : Nat) (a1 : Int) (S : St) : Nat → Int × Int → Option (Int) := lp fun go p => lb_Plan_lateOnForm_68 c0 a1 S go p.1 p.2
theorem tl_Plan_lateOnForm_68 {E : EV} {X : XT} {c0 : Nat} (hc0 : HC X 4 c0) {a1 : Int} (ha1 : inR a1) {S : St} {K : RK → PS → Prop} {q : Int} (hx : inR q → Go E M_Plan_lateOnForm 0 0 119 [(2, V q)] [] (WX X S) 0 0 K) : ∀ n a, lo_Plan_lateOnForm_68 c0 a1 S n a = some q → inR a.1 → inR a.2 → Go E M_Plan_lateOnForm 0 0 68 [(0, .ref c0), (1, V a1), (2, V a.1), (3, V a.2)] [] (WX X S) 0 0 K := by
  refine lp_ind (P := fun a : Int × Int => inR a.1 → inR a.2 → Go E M_Plan_lateOnForm 0 0 68 [(0, .ref c0), (1, V a1), (2, V a.1), (3, V a.2)] [] (WX X S) 0 0 K) (fun go ih a h => ?_)
  obtain ⟨a2, a3⟩ := a
  intro ha2 ha3
  show Go E M_Plan_lateOnForm 0 0 68 [(0, .ref c0), (1, V a1), (2, V a2), (3, V a3)] [] (WX X S) 0 0 K
  replace h : lb_Plan_lateOnForm_68 c0 a1 S go a2 a3 = some q := h
  unfold lb_Plan_lateOnForm_68 at h
  refine g_iloadn (pc := 68) (i0 := 3) (j := 3) (dK D_Plan_lateOnForm_0 34 rfl) rfl rfl ?_
  refine g_aloadn (pc := 69) (i0 := 0) (j := 0) (dK D_Plan_lateOnForm_0 35 rfl) rfl rfl ?_
  refine vg_getO (pc := 70) (ci := 4) (f := 0) (dK D_Plan_lateOnForm_0 36 rfl) q_301 hc0 (ltK rfl) (ltK rfl) rfl ?_
  refine vg_getO (pc := 73) (ci := 8) (f := 1) (dK D_Plan_lateOnForm_0 37 rfl) q_237 (hw_4_0 hc0) (ltK rfl) (ltK rfl) rfl ?_
  refine vg_getI (pc := 76) (ci := 9) (f := 5) (dK D_Plan_lateOnForm_0 38 rfl) q_165 (hw_8_1 (hw_4_0 hc0)) (ltK rfl) (ltK rfl) rfl ?_
  refine vg_icmp_ge (pc := 79) (t := 119) (dK D_Plan_lateOnForm_0 39 rfl) rfl ha3 (g_in _ _ _) (fun hc21 => ?_) (fun hc21 => ?_)
  · replace h := ifP h hc21
    obtain rfl := Option.some.inj h
    refine gL_weak (ls' := [(2, V a2)]) (sbc 2 rfl sbn) ?_
    exact hx ha2
  · replace h := ifN h hc21
    refine g_aloadn (pc := 82) (i0 := 0) (j := 0) (dK D_Plan_lateOnForm_0 40 rfl) rfl rfl ?_
    refine g_aloadn (pc := 83) (i0 := 0) (j := 0) (dK D_Plan_lateOnForm_0 41 rfl) rfl rfl ?_
    refine vg_getO (pc := 84) (ci := 4) (f := 0) (dK D_Plan_lateOnForm_0 42 rfl) q_301 hc0 (ltK rfl) (ltK rfl) rfl ?_
    refine vg_getO (pc := 87) (ci := 8) (f := 1) (dK D_Plan_lateOnForm_0 43 rfl) q_237 (hw_4_0 hc0) (ltK rfl) (ltK rfl) rfl ?_
    refine vg_getA (pc := 90) (ci := 9) (f := 3) (dK D_Plan_lateOnForm_0 44 rfl) q_158 (hw_8_1 (hw_4_0 hc0)) (ltK rfl) (ltK rfl) rfl ?_
    refine g_iloadn (pc := 93) (i0 := 3) (j := 3) (dK D_Plan_lateOnForm_0 45 rfl) rfl rfl ?_
    refine gdE h (fun hi12 h => ?_)
    refine vg_iaload (pc := 94) (j := a3.toNat) (dK D_Plan_lateOnForm_0 46 rfl) (hw_9_3 (hw_8_1 (hw_4_0 hc0))) rfl hi12 rfl ?_
    refine bnE h (fun p13 e_p13 h => ?_)
    refine vg_cV (pc := 95) (As := [V (g S (tgt (tgt (tgt c0 0) 1) 3) a3.toNat)]) (rest := []) (mc' := 0) (ms' := 0) (dK D_Plan_lateOnForm_0 47 rfl) K_Plan_186 (fitK rfl) (ltK rfl) hc0 rfl (leK rfl) (leK rfl) (leK rfl) (tf_Plan_isLate hc0 (g_in _ _ _) e_p13) (kcB ?_)
    refine vg_ifB_eq (pc := 98) (b := p13) (t := 113) (dK D_Plan_lateOnForm_0 48 rfl) rfl (fun hc14 => ?_) (fun hc14 => ?_)
    · replace h := ifP h hc14
      refine g_aloadn (pc := 101) (i0 := 0) (j := 0) (dK D_Plan_lateOnForm_0 49 rfl) rfl rfl ?_
      refine g_iloadn (pc := 102) (i0 := 3) (j := 3) (dK D_Plan_lateOnForm_1 0 rfl) rfl rfl ?_
      refine g_iloadn (pc := 103) (i0 := 1) (j := 1) (dK D_Plan_lateOnForm_1 1 rfl) rfl rfl ?_
      refine bnE h (fun p16 e_p16 h => ?_)
      refine vg_cV (pc := 104) (As := [V a3, V a1]) (rest := []) (mc' := 0) (ms' := 0) (dK D_Plan_lateOnForm_1 2 rfl) K_Plan_180 (fitK rfl) (ltK rfl) hc0 rfl (leK rfl) (leK rfl) (leK rfl) (tf_Plan_storyIsOn hc0 ha3 ha1 e_p16) (kcB ?_)
      refine vg_ifB_eq (pc := 107) (b := p16) (t := 113) (dK D_Plan_lateOnForm_1 3 rfl) rfl (fun hc17 => ?_) (fun hc17 => ?_)
      · replace h := ifP h hc17
        refine nmE h (fun v19 e_v19 h => ?_)
        refine vg_iinc (pc := 110) (j := 2) (a := a2) (z := 1) (ls2 := [(2, V v19), (0, .ref c0), (1, V a1), (3, V a3)]) (dK D_Plan_lateOnForm_1 4 rfl) rfl e_v19 (ltK rfl) rfl ?_
        refine nmE h (fun v20 e_v20 h => ?_)
        refine vg_iinc (pc := 113) (j := 3) (a := a3) (z := 1) (ls2 := [(3, V v20), (2, V v19), (0, .ref c0), (1, V a1)]) (dK D_Plan_lateOnForm_1 5 rfl) rfl e_v20 (ltK rfl) rfl ?_
        refine g_goto (pc := 116) (tgt := 68) (dK D_Plan_lateOnForm_1 6 rfl) rfl ?_
        refine gL_weak (ls' := [(0, .ref c0), (1, V a1), (2, V v19), (3, V v20)]) (sbc 2 rfl (sbc 3 rfl (sbc 1 rfl (sbc 0 rfl sbn)))) ?_
        replace h := ih _ h
        exact h (Vn_in e_v19) (Vn_in e_v20)
      · replace h := ifN h hc17
        refine nmE h (fun v18 e_v18 h => ?_)
        refine vg_iinc (pc := 113) (j := 3) (a := a3) (z := 1) (ls2 := [(3, V v18), (0, .ref c0), (1, V a1), (2, V a2)]) (dK D_Plan_lateOnForm_1 5 rfl) rfl e_v18 (ltK rfl) rfl ?_
        refine g_goto (pc := 116) (tgt := 68) (dK D_Plan_lateOnForm_1 6 rfl) rfl ?_
        refine gL_weak (ls' := [(0, .ref c0), (1, V a1), (2, V a2), (3, V v18)]) (sbc 1 rfl (sbc 2 rfl (sbc 3 rfl (sbc 0 rfl sbn)))) ?_
        replace h := ih _ h
        exact h ha2 (Vn_in e_v18)
    · replace h := ifN h hc14
      refine nmE h (fun v15 e_v15 h => ?_)
      refine vg_iinc (pc := 113) (j := 3) (a := a3) (z := 1) (ls2 := [(3, V v15), (0, .ref c0), (1, V a1), (2, V a2)]) (dK D_Plan_lateOnForm_1 5 rfl) rfl e_v15 (ltK rfl) rfl ?_
      refine g_goto (pc := 116) (tgt := 68) (dK D_Plan_lateOnForm_1 6 rfl) rfl ?_
      refine gL_weak (ls' := [(0, .ref c0), (1, V a1), (2, V a2), (3, V v15)]) (sbc 1 rfl (sbc 2 rfl (sbc 3 rfl (sbc 0 rfl sbn)))) ?_
      replace h := ih _ h
      exact h ha2 (Vn_in e_v15)
def fn_Plan_lateOnForm (c0 : Nat) (a1 : Int) (S : St) : Option (Int) := bnO (lo_Plan_lateOnForm_4 c0 a1 S FU (0, 0)) fun p11 => bnO (lo_Plan_lateOnForm_68 c0 a1 S FU (p11, 0)) fun p22 => some p22
theorem tf_Plan_lateOnForm {E : EV} {X : XT} {c0 : Nat} (hc0 : HC X 4 c0) {a1 : Int} (ha1 : inR a1) {S : St} {q : Int} (h : fn_Plan_lateOnForm c0 a1 S = some q) : Ev E M_Plan_lateOnForm [.ref c0, V a1] (WX X S) 0 0 (KI X q S) := by
  refine Ev.of pn_Plan rfl (leK rfl) ?_
  show Go E M_Plan_lateOnForm 0 0 0 [(0, .ref c0), (1, V a1)] [] (WX X S) 0 0 (KI X q S)
  unfold fn_Plan_lateOnForm at h
  refine vg_iconst (pc := 0) (dK D_Plan_lateOnForm_0 0 rfl) ?_
  refine g_istoren (pc := 1) (i0 := 2) (ls2 := [(2, V 0), (0, .ref c0), (1, V a1)]) (dK D_Plan_lateOnForm_0 1 rfl) rfl (ltK rfl) rfl ?_
  refine vg_iconst (pc := 2) (dK D_Plan_lateOnForm_0 2 rfl) ?_
  refine g_istoren (pc := 3) (i0 := 3) (ls2 := [(3, V 0), (2, V 0), (0, .ref c0), (1, V a1)]) (dK D_Plan_lateOnForm_0 3 rfl) rfl (ltK rfl) rfl ?_
  refine bnE h (fun p11 e_p11 h => ?_)
  refine gL_weak (ls' := [(0, .ref c0), (1, V a1), (2, V 0), (3, V 0)]) (sbc 2 rfl (sbc 3 rfl (sbc 1 rfl (sbc 0 rfl sbn)))) ?_
  refine tl_Plan_lateOnForm_4 hc0 ha1 (fun hx2_p11 => ?_) FU (0, 0) e_p11 (inRk rfl) (inRk rfl)
  refine vg_iconst (pc := 66) (dK D_Plan_lateOnForm_0 32 rfl) ?_
  refine g_istoren (pc := 67) (i0 := 3) (ls2 := [(3, V 0), (0, .ref c0), (1, V a1), (2, V p11)]) (dK D_Plan_lateOnForm_0 33 rfl) rfl (ltK rfl) rfl ?_
  refine bnE h (fun p22 e_p22 h => ?_)
  refine gL_weak (ls' := [(0, .ref c0), (1, V a1), (2, V p11), (3, V 0)]) (sbc 1 rfl (sbc 2 rfl (sbc 3 rfl (sbc 0 rfl sbn)))) ?_
  refine tl_Plan_lateOnForm_68 hc0 ha1 (fun hx2_p22 => ?_) FU (p11, 0) e_p22 hx2_p11 (inRk rfl)
  refine g_iloadn (pc := 119) (i0 := 2) (j := 0) (dK D_Plan_lateOnForm_1 7 rfl) rfl rfl ?_
  exact vg_iretI (pc := 120) (r := p22) (dK D_Plan_lateOnForm_1 8 rfl) rfl (leK rfl) (leK rfl) (fun _ => rfl) (by obtain rfl := Option.some.inj h; exact ⟨rfl, hx2_p22, rfl⟩)
def lb_Plan_hasColorItem_2 (c0 : Nat) (a1 : Int) (S : St) (go : Int → Option ((Bool) ⊕ (Unit))) (a2 : Int) : Option ((Bool) ⊕ (Unit)) := if (g S (tgt (tgt c0 0) 0) 7) ≤ a2 then (some (.inr ())) else (if 0 ≤ a2 ∧ a2 < 40 then (if (g S (tgt (tgt (tgt c0 0) 0) 2) a2.toNat) = 1 then (bnO (fn_Plan_formAt c0 (g S (tgt (tgt (tgt c0 0) 0) 6) a2.toNat) S) fun p3 => if p3 = a1 then (some (.inl true)) else (nm (wr (a2 + 1)) fun v4 => go v4)) else (nm (wr (a2 + 1)) fun v2 => go v2)) else none)
def lo_Plan_hasColorItem_2 (c0 : Nat) (a1 : Int) (S : St) : Nat → Int → Option ((Bool) ⊕ (Unit)) := lp fun go p => lb_Plan_hasColorItem_2 c0 a1 S go p
theorem tl_Plan_hasColorItem_2 {E : EV} {X : XT} {c0 : Nat} (hc0 : HC X 4 c0) {a1 : Int} (ha1 : inR a1) {S : St} {K : RK → PS → Prop} {q : (Bool) ⊕ (Unit)} (hx : ∀ p, q = .inr p → Go E M_Plan_hasColorItem 0 0 60 [(0, .ref c0), (1, V a1)] [] (WX X S) 0 0 K) (hr : ∀ p, q = .inl p → K (.inl (some (V (bi p)))) (WX X S)) : ∀ n a, lo_Plan_hasColorItem_2 c0 a1 S n a = some q → inR a → Go E M_Plan_hasColorItem 0 0 2 [(0, .ref c0), (1, V a1), (2, V a)] [] (WX X S) 0 0 K := by
  refine lp_ind (P := fun a : Int => inR a → Go E M_Plan_hasColorItem 0 0 2 [(0, .ref c0), (1, V a1), (2, V a)] [] (WX X S) 0 0 K) (fun go ih a2 h => ?_)
  intro ha2
  show Go E M_Plan_hasColorItem 0 0 2 [(0, .ref c0), (1, V a1), (2, V a2)] [] (WX X S) 0 0 K
  replace h : lb_Plan_hasColorItem_2 c0 a1 S go a2 = some q := h
  unfold lb_Plan_hasColorItem_2 at h
  refine g_iloadn (pc := 2) (i0 := 2) (j := 2) (dK D_Plan_hasColorItem_0 2 rfl) rfl rfl ?_
  refine g_aloadn (pc := 3) (i0 := 0) (j := 0) (dK D_Plan_hasColorItem_0 3 rfl) rfl rfl ?_
  refine vg_getO (pc := 4) (ci := 4) (f := 0) (dK D_Plan_hasColorItem_0 4 rfl) q_301 hc0 (ltK rfl) (ltK rfl) rfl ?_
  refine vg_getO (pc := 7) (ci := 8) (f := 0) (dK D_Plan_hasColorItem_0 5 rfl) q_233 (hw_4_0 hc0) (ltK rfl) (ltK rfl) rfl ?_
  refine vg_getI (pc := 10) (ci := 0) (f := 7) (dK D_Plan_hasColorItem_0 6 rfl) q_118 (hw_8_0 (hw_4_0 hc0)) (ltK rfl) (ltK rfl) rfl ?_
  refine vg_icmp_ge (pc := 13) (t := 60) (dK D_Plan_hasColorItem_0 7 rfl) rfl ha2 (g_in _ _ _) (fun hc7 => ?_) (fun hc7 => ?_)
  · replace h := ifP h hc7
    refine gL_weak (ls' := [(0, .ref c0), (1, V a1)]) (sbc 0 rfl (sbc 1 rfl sbn)) ?_
    exact hx _ (Option.some.inj h).symm 
  · replace h := ifN h hc7
    refine g_aloadn (pc := 16) (i0 := 0) (j := 0) (dK D_Plan_hasColorItem_0 8 rfl) rfl rfl ?_
    refine vg_getO (pc := 17) (ci := 4) (f := 0) (dK D_Plan_hasColorItem_0 9 rfl) q_301 hc0 (ltK rfl) (ltK rfl) rfl ?_
    refine vg_getO (pc := 20) (ci := 8) (f := 0) (dK D_Plan_hasColorItem_0 10 rfl) q_233 (hw_4_0 hc0) (ltK rfl) (ltK rfl) rfl ?_
    refine vg_getA (pc := 23) (ci := 0) (f := 2) (dK D_Plan_hasColorItem_0 11 rfl) q_97 (hw_8_0 (hw_4_0 hc0)) (ltK rfl) (ltK rfl) rfl ?_
    refine g_iloadn (pc := 26) (i0 := 2) (j := 2) (dK D_Plan_hasColorItem_0 12 rfl) rfl rfl ?_
    refine gdE h (fun hi1 h => ?_)
    refine vg_iaload (pc := 27) (j := a2.toNat) (dK D_Plan_hasColorItem_0 13 rfl) (hw_0_2 (hw_8_0 (hw_4_0 hc0))) rfl hi1 rfl ?_
    refine vg_iconst (pc := 28) (dK D_Plan_hasColorItem_0 14 rfl) ?_
    refine vg_icmp_ne (pc := 29) (t := 54) (dK D_Plan_hasColorItem_0 15 rfl) rfl (g_in _ _ _) (inRk rfl) (fun hc6 => ?_) (fun hc6 => ?_)
    · replace h := ifN h hc6
      refine nmE h (fun v2 e_v2 h => ?_)
      refine vg_iinc (pc := 54) (j := 2) (a := a2) (z := 1) (ls2 := [(2, V v2), (0, .ref c0), (1, V a1)]) (dK D_Plan_hasColorItem_0 28 rfl) rfl e_v2 (ltK rfl) rfl ?_
      refine g_goto (pc := 57) (tgt := 2) (dK D_Plan_hasColorItem_0 29 rfl) rfl ?_
      refine gL_weak (ls' := [(0, .ref c0), (1, V a1), (2, V v2)]) (sbc 1 rfl (sbc 2 rfl (sbc 0 rfl sbn))) ?_
      replace h := ih _ h
      exact h (Vn_in e_v2)
    · replace h := ifP h hc6
      refine g_aloadn (pc := 32) (i0 := 0) (j := 0) (dK D_Plan_hasColorItem_0 16 rfl) rfl rfl ?_
      refine g_aloadn (pc := 33) (i0 := 0) (j := 0) (dK D_Plan_hasColorItem_0 17 rfl) rfl rfl ?_
      refine vg_getO (pc := 34) (ci := 4) (f := 0) (dK D_Plan_hasColorItem_0 18 rfl) q_301 hc0 (ltK rfl) (ltK rfl) rfl ?_
      refine vg_getO (pc := 37) (ci := 8) (f := 0) (dK D_Plan_hasColorItem_0 19 rfl) q_233 (hw_4_0 hc0) (ltK rfl) (ltK rfl) rfl ?_
      refine vg_getA (pc := 40) (ci := 0) (f := 6) (dK D_Plan_hasColorItem_0 20 rfl) q_113 (hw_8_0 (hw_4_0 hc0)) (ltK rfl) (ltK rfl) rfl ?_
      refine g_iloadn (pc := 43) (i0 := 2) (j := 2) (dK D_Plan_hasColorItem_0 21 rfl) rfl rfl ?_
      refine vg_iaload (pc := 44) (j := a2.toNat) (dK D_Plan_hasColorItem_0 22 rfl) (hw_0_6 (hw_8_0 (hw_4_0 hc0))) rfl hi1 rfl ?_
      refine bnE h (fun p3 e_p3 h => ?_)
      refine vg_cV (pc := 45) (As := [V (g S (tgt (tgt (tgt c0 0) 0) 6) a2.toNat)]) (rest := []) (mc' := 0) (ms' := 0) (dK D_Plan_hasColorItem_0 23 rfl) K_Plan_173 (fitK rfl) (ltK rfl) hc0 rfl (leK rfl) (leK rfl) (leK rfl) (tf_Plan_formAt hc0 (g_in _ _ _) e_p3) (kcI (fun h_p3 => ?_))
      refine g_iloadn (pc := 48) (i0 := 1) (j := 1) (dK D_Plan_hasColorItem_0 24 rfl) rfl rfl ?_
      refine vg_icmp_ne (pc := 49) (t := 54) (dK D_Plan_hasColorItem_0 25 rfl) rfl h_p3 ha1 (fun hc5 => ?_) (fun hc5 => ?_)
      · replace h := ifN h hc5
        refine nmE h (fun v4 e_v4 h => ?_)
        refine vg_iinc (pc := 54) (j := 2) (a := a2) (z := 1) (ls2 := [(2, V v4), (0, .ref c0), (1, V a1)]) (dK D_Plan_hasColorItem_0 28 rfl) rfl e_v4 (ltK rfl) rfl ?_
        refine g_goto (pc := 57) (tgt := 2) (dK D_Plan_hasColorItem_0 29 rfl) rfl ?_
        refine gL_weak (ls' := [(0, .ref c0), (1, V a1), (2, V v4)]) (sbc 1 rfl (sbc 2 rfl (sbc 0 rfl sbn))) ?_
        replace h := ih _ h
        exact h (Vn_in e_v4)
      · replace h := ifP h hc5
        refine vg_iconst (pc := 52) (dK D_Plan_hasColorItem_0 26 rfl) ?_
        exact vg_iretB (pc := 53) (b := true) (dK D_Plan_hasColorItem_0 27 rfl) rfl (leK rfl) (leK rfl) (fun _ => rfl) (hr _ (Option.some.inj h).symm)
def lb_Plan_hasColorItem_62 (c0 : Nat) (a1 : Int) (S : St) (go : Int → Option ((Bool) ⊕ (Unit))) (a2 : Int) : Option ((Bool) ⊕ (Unit)) := if (g S (tgt (tgt c0 0) 1) 5) ≤ a2 then (some (.inr ())) else (if 0 ≤ a2 ∧ a2 < 10 then (if (g S (tgt (tgt (tgt c0 0) 1) 1) a2.toNat) = 1 then (bnO (fn_Plan_storyIsOn c0 a2 a1 S) fun p11 => if p11 = true then (some (.inl true)) else (nm (wr (a2 + 1)) fun v13 => go v13)) else (nm (wr (a2 + 1)) fun v10 => go v10)) else none)
def lo_Plan_hasColorItem_62 (c0 : Nat) (a1 : Int) (S : St) : Nat → Int → Option ((Bool) ⊕ (Unit)) := lp fun go p => lb_Plan_hasColorItem_62 c0 a1 S go p
theorem tl_Plan_hasColorItem_62 {E : EV} {X : XT} {c0 : Nat} (hc0 : HC X 4 c0) {a1 : Int} (ha1 : inR a1) {S : St} {K : RK → PS → Prop} {q : (Bool) ⊕ (Unit)} (hx : ∀ p, q = .inr p → Go E M_Plan_hasColorItem 0 0 109 [] [] (WX X S) 0 0 K) (hr : ∀ p, q = .inl p → K (.inl (some (V (bi p)))) (WX X S)) : ∀ n a, lo_Plan_hasColorItem_62 c0 a1 S n a = some q → inR a → Go E M_Plan_hasColorItem 0 0 62 [(0, .ref c0), (1, V a1), (2, V a)] [] (WX X S) 0 0 K := by
  refine lp_ind (P := fun a : Int => inR a → Go E M_Plan_hasColorItem 0 0 62 [(0, .ref c0), (1, V a1), (2, V a)] [] (WX X S) 0 0 K) (fun go ih a2 h => ?_)
  intro ha2
  show Go E M_Plan_hasColorItem 0 0 62 [(0, .ref c0), (1, V a1), (2, V a2)] [] (WX X S) 0 0 K
  replace h : lb_Plan_hasColorItem_62 c0 a1 S go a2 = some q := h
  unfold lb_Plan_hasColorItem_62 at h
  refine g_iloadn (pc := 62) (i0 := 2) (j := 2) (dK D_Plan_hasColorItem_0 32 rfl) rfl rfl ?_
  refine g_aloadn (pc := 63) (i0 := 0) (j := 0) (dK D_Plan_hasColorItem_0 33 rfl) rfl rfl ?_
  refine vg_getO (pc := 64) (ci := 4) (f := 0) (dK D_Plan_hasColorItem_0 34 rfl) q_301 hc0 (ltK rfl) (ltK rfl) rfl ?_
  refine vg_getO (pc := 67) (ci := 8) (f := 1) (dK D_Plan_hasColorItem_0 35 rfl) q_237 (hw_4_0 hc0) (ltK rfl) (ltK rfl) rfl ?_
  refine vg_getI (pc := 70) (ci := 9) (f := 5) (dK D_Plan_hasColorItem_0 36 rfl) q_165 (hw_8_1 (hw_4_0 hc0)) (ltK rfl) (ltK rfl) rfl ?_
  refine vg_icmp_ge (pc := 73) (t := 109) (dK D_Plan_hasColorItem_0 37 rfl) rfl ha2 (g_in _ _ _) (fun hc15 => ?_) (fun hc15 => ?_)
  · replace h := ifP h hc15
    refine gL_weak (ls' := []) sbn ?_
    exact hx _ (Option.some.inj h).symm 
  · replace h := ifN h hc15
    refine g_aloadn (pc := 76) (i0 := 0) (j := 0) (dK D_Plan_hasColorItem_0 38 rfl) rfl rfl ?_
    refine vg_getO (pc := 77) (ci := 4) (f := 0) (dK D_Plan_hasColorItem_0 39 rfl) q_301 hc0 (ltK rfl) (ltK rfl) rfl ?_
    refine vg_getO (pc := 80) (ci := 8) (f := 1) (dK D_Plan_hasColorItem_0 40 rfl) q_237 (hw_4_0 hc0) (ltK rfl) (ltK rfl) rfl ?_
    refine vg_getA (pc := 83) (ci := 9) (f := 1) (dK D_Plan_hasColorItem_0 41 rfl) q_150 (hw_8_1 (hw_4_0 hc0)) (ltK rfl) (ltK rfl) rfl ?_
    refine g_iloadn (pc := 86) (i0 := 2) (j := 2) (dK D_Plan_hasColorItem_0 42 rfl) rfl rfl ?_
    refine gdE h (fun hi9 h => ?_)
    refine vg_iaload (pc := 87) (j := a2.toNat) (dK D_Plan_hasColorItem_0 43 rfl) (hw_9_1 (hw_8_1 (hw_4_0 hc0))) rfl hi9 rfl ?_
    refine vg_iconst (pc := 88) (dK D_Plan_hasColorItem_0 44 rfl) ?_
    refine vg_icmp_ne (pc := 89) (t := 103) (dK D_Plan_hasColorItem_0 45 rfl) rfl (g_in _ _ _) (inRk rfl) (fun hc14 => ?_) (fun hc14 => ?_)
    · replace h := ifN h hc14
      refine nmE h (fun v10 e_v10 h => ?_)
      refine vg_iinc (pc := 103) (j := 2) (a := a2) (z := 1) (ls2 := [(2, V v10), (0, .ref c0), (1, V a1)]) (dK D_Plan_hasColorItem_1 3 rfl) rfl e_v10 (ltK rfl) rfl ?_
      refine g_goto (pc := 106) (tgt := 62) (dK D_Plan_hasColorItem_1 4 rfl) rfl ?_
      refine gL_weak (ls' := [(0, .ref c0), (1, V a1), (2, V v10)]) (sbc 1 rfl (sbc 2 rfl (sbc 0 rfl sbn))) ?_
      replace h := ih _ h
      exact h (Vn_in e_v10)
    · replace h := ifP h hc14
      refine g_aloadn (pc := 92) (i0 := 0) (j := 0) (dK D_Plan_hasColorItem_0 46 rfl) rfl rfl ?_
      refine g_iloadn (pc := 93) (i0 := 2) (j := 2) (dK D_Plan_hasColorItem_0 47 rfl) rfl rfl ?_
      refine g_iloadn (pc := 94) (i0 := 1) (j := 1) (dK D_Plan_hasColorItem_0 48 rfl) rfl rfl ?_
      refine bnE h (fun p11 e_p11 h => ?_)
      refine vg_cV (pc := 95) (As := [V a2, V a1]) (rest := []) (mc' := 0) (ms' := 0) (dK D_Plan_hasColorItem_0 49 rfl) K_Plan_180 (fitK rfl) (ltK rfl) hc0 rfl (leK rfl) (leK rfl) (leK rfl) (tf_Plan_storyIsOn hc0 ha2 ha1 e_p11) (kcB ?_)
      refine vg_ifB_eq (pc := 98) (b := p11) (t := 103) (dK D_Plan_hasColorItem_1 0 rfl) rfl (fun hc12 => ?_) (fun hc12 => ?_)
      · replace h := ifP h hc12
        refine vg_iconst (pc := 101) (dK D_Plan_hasColorItem_1 1 rfl) ?_
        exact vg_iretB (pc := 102) (b := true) (dK D_Plan_hasColorItem_1 2 rfl) rfl (leK rfl) (leK rfl) (fun _ => rfl) (hr _ (Option.some.inj h).symm)
      · replace h := ifN h hc12
        refine nmE h (fun v13 e_v13 h => ?_)
        refine vg_iinc (pc := 103) (j := 2) (a := a2) (z := 1) (ls2 := [(2, V v13), (0, .ref c0), (1, V a1)]) (dK D_Plan_hasColorItem_1 3 rfl) rfl e_v13 (ltK rfl) rfl ?_
        refine g_goto (pc := 106) (tgt := 62) (dK D_Plan_hasColorItem_1 4 rfl) rfl ?_
        refine gL_weak (ls' := [(0, .ref c0), (1, V a1), (2, V v13)]) (sbc 1 rfl (sbc 2 rfl (sbc 0 rfl sbn))) ?_
        replace h := ih _ h
        exact h (Vn_in e_v13)
def fn_Plan_hasColorItem (c0 : Nat) (a1 : Int) (S : St) : Option (Bool) := bnS (lo_Plan_hasColorItem_2 c0 a1 S FU 0) (fun p18 => some p18) fun p8 => bnS (lo_Plan_hasColorItem_62 c0 a1 S FU 0) (fun p17 => some p17) fun p16 => some false
theorem tf_Plan_hasColorItem {E : EV} {X : XT} {c0 : Nat} (hc0 : HC X 4 c0) {a1 : Int} (ha1 : inR a1) {S : St} {q : Bool} (h : fn_Plan_hasColorItem c0 a1 S = some q) : Ev E M_Plan_hasColorItem [.ref c0, V a1] (WX X S) 0 0 (KB X q S) := by
  refine Ev.of pn_Plan rfl (leK rfl) ?_
  show Go E M_Plan_hasColorItem 0 0 0 [(0, .ref c0), (1, V a1)] [] (WX X S) 0 0 (KB X q S)
  unfold fn_Plan_hasColorItem at h
  refine vg_iconst (pc := 0) (dK D_Plan_hasColorItem_0 0 rfl) ?_
  refine g_istoren (pc := 1) (i0 := 2) (ls2 := [(2, V 0), (0, .ref c0), (1, V a1)]) (dK D_Plan_hasColorItem_0 1 rfl) rfl (ltK rfl) rfl ?_
  refine bnSE h (fun p18 e_p18 h => ?_) (fun p8 e_p8 h => ?_)
  · refine gL_weak (ls' := [(0, .ref c0), (1, V a1), (2, V 0)]) (sbc 1 rfl (sbc 2 rfl (sbc 0 rfl sbn))) ?_
    refine tl_Plan_hasColorItem_2 hc0 ha1 (fun _ e => slr e) (fun p e => ?_) FU 0 e_p18 (inRk rfl)
    have e := Sum.inl.inj e
    subst e
    exact (by obtain rfl := Option.some.inj h; exact ⟨rfl, rfl⟩)
  · refine gL_weak (ls' := [(0, .ref c0), (1, V a1), (2, V 0)]) (sbc 1 rfl (sbc 2 rfl (sbc 0 rfl sbn))) ?_
    refine tl_Plan_hasColorItem_2 hc0 ha1 (fun p e => ?_) (fun _ e => srl e) FU 0 e_p8 (inRk rfl)
    have e := Sum.inr.inj e
    subst e
    refine vg_iconst (pc := 60) (dK D_Plan_hasColorItem_0 30 rfl) ?_
    refine g_istoren (pc := 61) (i0 := 2) (ls2 := [(2, V 0), (0, .ref c0), (1, V a1)]) (dK D_Plan_hasColorItem_0 31 rfl) rfl (ltK rfl) rfl ?_
    refine bnSE h (fun p17 e_p17 h => ?_) (fun p16 e_p16 h => ?_)
    · refine gL_weak (ls' := [(0, .ref c0), (1, V a1), (2, V 0)]) (sbc 1 rfl (sbc 2 rfl (sbc 0 rfl sbn))) ?_
      refine tl_Plan_hasColorItem_62 hc0 ha1 (fun _ e => slr e) (fun p e => ?_) FU 0 e_p17 (inRk rfl)
      have e := Sum.inl.inj e
      subst e
      exact (by obtain rfl := Option.some.inj h; exact ⟨rfl, rfl⟩)
    · refine gL_weak (ls' := [(0, .ref c0), (1, V a1), (2, V 0)]) (sbc 1 rfl (sbc 2 rfl (sbc 0 rfl sbn))) ?_
      refine tl_Plan_hasColorItem_62 hc0 ha1 (fun p e => ?_) (fun _ e => srl e) FU 0 e_p16 (inRk rfl)
      have e := Sum.inr.inj e
      subst e
      refine vg_iconst (pc := 109) (dK D_Plan_hasColorItem_1 5 rfl) ?_
      exact vg_iretB (pc := 110) (b := false) (dK D_Plan_hasColorItem_1 6 rfl) rfl (leK rfl) (leK rfl) (fun _ => rfl) (by obtain rfl := Option.some.inj h; exact ⟨rfl, rfl⟩)
def fn_FP_form (c0 : Nat) (a1 : Int) (a2 : Int) (S : St) : Option (Nat × Int) := bnO (fn_FP_needForm c0 a1 S) fun p1 => if p1 = 0 then (if a2 = 0 then (if 0 ≤ a1 ∧ a1 < 8 then (some (0, (g S (tgt (tgt (tgt (tgt c0 3) 0) 3) 0) a1.toNat))) else none) else if a2 = 1 then (if 0 ≤ a1 ∧ a1 < 8 then (some (0, (g S (tgt (tgt (tgt (tgt c0 3) 0) 3) 1) a1.toNat))) else none) else if a2 = 2 then (if 0 ≤ a1 ∧ a1 < 8 then (bnO (fn_FP_orNone (g S (tgt (tgt (tgt (tgt c0 3) 0) 3) 2) a1.toNat) S) fun p8 => some (0, p8)) else none) else if a2 = 3 then (some (0, (wr ((g S (tgt (tgt c0 3) 0) 5).tdiv 2)))) else if a2 = 4 then (bnO (fn_Plan_leftOnForm (tgt c0 3) a1 S) fun p11 => some (0, p11)) else if a2 = 5 then (bnO (fn_Plan_adsOnForm (tgt c0 3) a1 S) fun p13 => some (0, p13)) else if a2 = 6 then (bnO (fn_Plan_lateOnForm (tgt c0 3) a1 S) fun p15 => some (0, p15)) else if a2 = 7 then (bnO (fn_Plan_hasColorItem (tgt c0 3) a1 S) fun p17 => if p17 = true then (some (0, 1)) else (some (0, 0))) else (some (0, (-1)))) else (some (p1, 0))
theorem tf_FP_form {E : EV} {X : XT} (hfl : X.2.2.2 = false) {c0 : Nat} (hc0 : HC X 10 c0) {a1 : Int} (ha1 : inR a1) {a2 : Int} (ha2 : inR a2) {S : St} {q : Nat × Int} (h : fn_FP_form c0 a1 a2 S = some q) : Ev E M_FP_form [.ref c0, V a1, V a2] (WX X S) 1 6 (KT X q.1 S (KI X q.2 S)) := by
  refine Ev.of pn_FP rfl (leK rfl) ?_
  show Go E M_FP_form 1 6 0 [(0, .ref c0), (1, V a1), (2, V a2)] [] (WX X S) 0 0 (KT X q.1 S (KI X q.2 S))
  unfold fn_FP_form at h
  refine g_aloadn (pc := 0) (i0 := 0) (j := 0) (dK D_FP_form_0 0 rfl) rfl rfl ?_
  refine g_iloadn (pc := 1) (i0 := 1) (j := 1) (dK D_FP_form_0 1 rfl) rfl rfl ?_
  refine bnE h (fun p1 e_p1 h => ?_)
  refine vg_cV (pc := 2) (As := [V a1]) (rest := []) (mc' := 1) (ms' := 6) (dK D_FP_form_0 2 rfl) K_FP_223 (fitK rfl) (ltK rfl) hc0 rfl (leK rfl) (leK rfl) (leK rfl) (tf_FP_needForm hfl hc0 ha1 e_p1) (kcT hfl (fun he19 => kcU ?_) (fun he19 => ⟨rfl, ?_⟩))
  · replace h := ifP h he19
    refine g_aloadn (pc := 5) (i0 := 0) (j := 0) (dK D_FP_form_0 3 rfl) rfl rfl ?_
    refine vg_getO (pc := 6) (ci := 10) (f := 3) (dK D_FP_form_0 4 rfl) q_436 hc0 (ltK rfl) (ltK rfl) rfl ?_
    refine vg_getO (pc := 9) (ci := 4) (f := 0) (dK D_FP_form_0 5 rfl) q_303 (hw_10_3 hc0) (ltK rfl) (ltK rfl) rfl ?_
    refine vg_getO (pc := 12) (ci := 8) (f := 3) (dK D_FP_form_0 6 rfl) q_248 (hw_4_0 (hw_10_3 hc0)) (ltK rfl) (ltK rfl) rfl ?_
    refine g_astoren (pc := 15) (i0 := 3) (ls2 := [(3, .ref (tgt (tgt (tgt c0 3) 0) 3)), (0, .ref c0), (1, V a1), (2, V a2)]) (dK D_FP_form_0 7 rfl) rfl (ltK rfl) rfl ?_
    refine g_iloadn (pc := 16) (i0 := 2) (j := 3) (dK D_FP_form_0 8 rfl) rfl rfl ?_
    by_cases hk2 : a2 = 0
    · have h := ifP h hk2
      refine vg_tabK (pc := 17) (kk := 0) (t := 64) (dK D_FP_form_0 9 rfl) hk2 rfl rfl rfl rfl ?_
      refine g_aloadn (pc := 64) (i0 := 3) (j := 0) (dK D_FP_form_0 10 rfl) rfl rfl ?_
      refine vg_getA (pc := 65) (ci := 2) (f := 0) (dK D_FP_form_0 11 rfl) q_214 (hw_8_3 (hw_4_0 (hw_10_3 hc0))) (ltK rfl) (ltK rfl) rfl ?_
      refine g_iloadn (pc := 68) (i0 := 1) (j := 2) (dK D_FP_form_0 12 rfl) rfl rfl ?_
      refine gdE h (fun hi3 h => ?_)
      refine vg_iaload (pc := 69) (j := a1.toNat) (dK D_FP_form_0 13 rfl) (hw_2_0 (hw_8_3 (hw_4_0 (hw_10_3 hc0)))) rfl hi3 rfl ?_
      exact vg_iretI (pc := 70) (r := (g S (tgt (tgt (tgt (tgt c0 3) 0) 3) 0) a1.toNat)) (dK D_FP_form_0 14 rfl) rfl (leK rfl) (leK rfl) (xf hfl) (by obtain rfl := Option.some.inj h; exact KT_ok ⟨rfl, (g_in _ _ _), rfl⟩)
    replace h := ifN h hk2
    by_cases hk4 : a2 = 1
    · have h := ifP h hk4
      refine vg_tabK (pc := 17) (kk := 1) (t := 71) (dK D_FP_form_0 9 rfl) hk4 rfl rfl rfl rfl ?_
      refine g_aloadn (pc := 71) (i0 := 3) (j := 0) (dK D_FP_form_0 15 rfl) rfl rfl ?_
      refine vg_getA (pc := 72) (ci := 2) (f := 1) (dK D_FP_form_0 16 rfl) q_218 (hw_8_3 (hw_4_0 (hw_10_3 hc0))) (ltK rfl) (ltK rfl) rfl ?_
      refine g_iloadn (pc := 75) (i0 := 1) (j := 2) (dK D_FP_form_0 17 rfl) rfl rfl ?_
      refine gdE h (fun hi5 h => ?_)
      refine vg_iaload (pc := 76) (j := a1.toNat) (dK D_FP_form_0 18 rfl) (hw_2_1 (hw_8_3 (hw_4_0 (hw_10_3 hc0)))) rfl hi5 rfl ?_
      exact vg_iretI (pc := 77) (r := (g S (tgt (tgt (tgt (tgt c0 3) 0) 3) 1) a1.toNat)) (dK D_FP_form_0 19 rfl) rfl (leK rfl) (leK rfl) (xf hfl) (by obtain rfl := Option.some.inj h; exact KT_ok ⟨rfl, (g_in _ _ _), rfl⟩)
    replace h := ifN h hk4
    by_cases hk6 : a2 = 2
    · have h := ifP h hk6
      refine vg_tabK (pc := 17) (kk := 2) (t := 78) (dK D_FP_form_0 9 rfl) hk6 rfl rfl rfl rfl ?_
      refine g_aloadn (pc := 78) (i0 := 3) (j := 0) (dK D_FP_form_0 20 rfl) rfl rfl ?_
      refine vg_getA (pc := 79) (ci := 2) (f := 2) (dK D_FP_form_0 21 rfl) q_223 (hw_8_3 (hw_4_0 (hw_10_3 hc0))) (ltK rfl) (ltK rfl) rfl ?_
      refine g_iloadn (pc := 82) (i0 := 1) (j := 2) (dK D_FP_form_0 22 rfl) rfl rfl ?_
      refine gdE h (fun hi7 h => ?_)
      refine vg_iaload (pc := 83) (j := a1.toNat) (dK D_FP_form_0 23 rfl) (hw_2_2 (hw_8_3 (hw_4_0 (hw_10_3 hc0)))) rfl hi7 rfl ?_
      refine bnE h (fun p8 e_p8 h => ?_)
      refine vg_cS (pc := 84) (As := [V (g S (tgt (tgt (tgt (tgt c0 3) 0) 3) 2) a1.toNat)]) (rest := []) (mc' := 0) (ms' := 0) (dK D_FP_form_0 24 rfl) K_FP_185 (fitK rfl) rfl (leK rfl) (leK rfl) (leK rfl) (tf_FP_orNone (g_in _ _ _) e_p8) (kcI (fun h_p8 => ?_))
      exact vg_iretI (pc := 87) (r := p8) (dK D_FP_form_0 25 rfl) rfl (leK rfl) (leK rfl) (xf hfl) (by obtain rfl := Option.some.inj h; exact KT_ok ⟨rfl, h_p8, rfl⟩)
    replace h := ifN h hk6
    by_cases hk9 : a2 = 3
    · have h := ifP h hk9
      refine vg_tabK (pc := 17) (kk := 3) (t := 88) (dK D_FP_form_0 9 rfl) hk9 rfl rfl rfl rfl ?_
      refine g_aloadn (pc := 88) (i0 := 0) (j := 1) (dK D_FP_form_0 26 rfl) rfl rfl ?_
      refine vg_getO (pc := 89) (ci := 10) (f := 3) (dK D_FP_form_0 27 rfl) q_436 hc0 (ltK rfl) (ltK rfl) rfl ?_
      refine vg_getO (pc := 92) (ci := 4) (f := 0) (dK D_FP_form_0 28 rfl) q_303 (hw_10_3 hc0) (ltK rfl) (ltK rfl) rfl ?_
      refine vg_getI (pc := 95) (ci := 8) (f := 5) (dK D_FP_form_0 29 rfl) q_255 (hw_4_0 (hw_10_3 hc0)) (ltK rfl) (ltK rfl) rfl ?_
      refine vg_iconst (pc := 98) (dK D_FP_form_0 30 rfl) ?_
      refine vg_idiv (pc := 99) (dK D_FP_form_0 31 rfl) (g_in _ _ _) (inRk rfl) (by decide) ?_
      refine gtop (x := (wr ((g S (tgt (tgt c0 3) 0) 5).tdiv 2))) rfl ?_
      exact vg_iretI (pc := 100) (r := (wr ((g S (tgt (tgt c0 3) 0) 5).tdiv 2))) (dK D_FP_form_0 32 rfl) rfl (leK rfl) (leK rfl) (xf hfl) (by obtain rfl := Option.some.inj h; exact KT_ok ⟨rfl, (wr_in _), rfl⟩)
    replace h := ifN h hk9
    by_cases hk10 : a2 = 4
    · have h := ifP h hk10
      refine vg_tabK (pc := 17) (kk := 4) (t := 101) (dK D_FP_form_0 9 rfl) hk10 rfl rfl rfl rfl ?_
      refine g_aloadn (pc := 101) (i0 := 0) (j := 1) (dK D_FP_form_0 33 rfl) rfl rfl ?_
      refine vg_getO (pc := 102) (ci := 10) (f := 3) (dK D_FP_form_0 34 rfl) q_436 hc0 (ltK rfl) (ltK rfl) rfl ?_
      refine g_iloadn (pc := 105) (i0 := 1) (j := 2) (dK D_FP_form_0 35 rfl) rfl rfl ?_
      refine bnE h (fun p11 e_p11 h => ?_)
      refine vg_cV (pc := 106) (As := [V a1]) (rest := []) (mc' := 0) (ms' := 0) (dK D_FP_form_0 36 rfl) K_FP_232 (fitK rfl) (ltK rfl) (hw_10_3 hc0) rfl (leK rfl) (leK rfl) (leK rfl) (tf_Plan_leftOnForm (hw_10_3 hc0) ha1 e_p11) (kcI (fun h_p11 => ?_))
      exact vg_iretI (pc := 109) (r := p11) (dK D_FP_form_0 37 rfl) rfl (leK rfl) (leK rfl) (xf hfl) (by obtain rfl := Option.some.inj h; exact KT_ok ⟨rfl, h_p11, rfl⟩)
    replace h := ifN h hk10
    by_cases hk12 : a2 = 5
    · have h := ifP h hk12
      refine vg_tabK (pc := 17) (kk := 5) (t := 110) (dK D_FP_form_0 9 rfl) hk12 rfl rfl rfl rfl ?_
      refine g_aloadn (pc := 110) (i0 := 0) (j := 1) (dK D_FP_form_0 38 rfl) rfl rfl ?_
      refine vg_getO (pc := 111) (ci := 10) (f := 3) (dK D_FP_form_0 39 rfl) q_436 hc0 (ltK rfl) (ltK rfl) rfl ?_
      refine g_iloadn (pc := 114) (i0 := 1) (j := 2) (dK D_FP_form_0 40 rfl) rfl rfl ?_
      refine bnE h (fun p13 e_p13 h => ?_)
      refine vg_cV (pc := 115) (As := [V a1]) (rest := []) (mc' := 0) (ms' := 0) (dK D_FP_form_0 41 rfl) K_FP_235 (fitK rfl) (ltK rfl) (hw_10_3 hc0) rfl (leK rfl) (leK rfl) (leK rfl) (tf_Plan_adsOnForm (hw_10_3 hc0) ha1 e_p13) (kcI (fun h_p13 => ?_))
      exact vg_iretI (pc := 118) (r := p13) (dK D_FP_form_0 42 rfl) rfl (leK rfl) (leK rfl) (xf hfl) (by obtain rfl := Option.some.inj h; exact KT_ok ⟨rfl, h_p13, rfl⟩)
    replace h := ifN h hk12
    by_cases hk14 : a2 = 6
    · have h := ifP h hk14
      refine vg_tabK (pc := 17) (kk := 6) (t := 119) (dK D_FP_form_0 9 rfl) hk14 rfl rfl rfl rfl ?_
      refine g_aloadn (pc := 119) (i0 := 0) (j := 1) (dK D_FP_form_0 43 rfl) rfl rfl ?_
      refine vg_getO (pc := 120) (ci := 10) (f := 3) (dK D_FP_form_0 44 rfl) q_436 hc0 (ltK rfl) (ltK rfl) rfl ?_
      refine g_iloadn (pc := 123) (i0 := 1) (j := 2) (dK D_FP_form_0 45 rfl) rfl rfl ?_
      refine bnE h (fun p15 e_p15 h => ?_)
      refine vg_cV (pc := 124) (As := [V a1]) (rest := []) (mc' := 0) (ms' := 0) (dK D_FP_form_0 46 rfl) K_FP_238 (fitK rfl) (ltK rfl) (hw_10_3 hc0) rfl (leK rfl) (leK rfl) (leK rfl) (tf_Plan_lateOnForm (hw_10_3 hc0) ha1 e_p15) (kcI (fun h_p15 => ?_))
      exact vg_iretI (pc := 127) (r := p15) (dK D_FP_form_0 47 rfl) rfl (leK rfl) (leK rfl) (xf hfl) (by obtain rfl := Option.some.inj h; exact KT_ok ⟨rfl, h_p15, rfl⟩)
    replace h := ifN h hk14
    by_cases hk16 : a2 = 7
    · have h := ifP h hk16
      refine vg_tabK (pc := 17) (kk := 7) (t := 128) (dK D_FP_form_0 9 rfl) hk16 rfl rfl rfl rfl ?_
      refine g_aloadn (pc := 128) (i0 := 0) (j := 1) (dK D_FP_form_0 48 rfl) rfl rfl ?_
      refine vg_getO (pc := 129) (ci := 10) (f := 3) (dK D_FP_form_0 49 rfl) q_436 hc0 (ltK rfl) (ltK rfl) rfl ?_
      refine g_iloadn (pc := 132) (i0 := 1) (j := 2) (dK D_FP_form_1 0 rfl) rfl rfl ?_
      refine bnE h (fun p17 e_p17 h => ?_)
      refine vg_cV (pc := 133) (As := [V a1]) (rest := []) (mc' := 0) (ms' := 0) (dK D_FP_form_1 1 rfl) K_FP_241 (fitK rfl) (ltK rfl) (hw_10_3 hc0) rfl (leK rfl) (leK rfl) (leK rfl) (tf_Plan_hasColorItem (hw_10_3 hc0) ha1 e_p17) (kcB ?_)
      refine vg_ifB_eq (pc := 136) (b := p17) (t := 143) (dK D_FP_form_1 2 rfl) rfl (fun hc18 => ?_) (fun hc18 => ?_)
      · replace h := ifP h hc18
        refine vg_iconst (pc := 139) (dK D_FP_form_1 3 rfl) ?_
        refine g_goto (pc := 140) (tgt := 144) (dK D_FP_form_1 4 rfl) rfl ?_
        exact vg_iretI (pc := 144) (r := 1) (dK D_FP_form_1 6 rfl) rfl (leK rfl) (leK rfl) (xf hfl) (by obtain rfl := Option.some.inj h; exact KT_ok ⟨rfl, (inRk rfl), rfl⟩)
      · replace h := ifN h hc18
        refine vg_iconst (pc := 143) (dK D_FP_form_1 5 rfl) ?_
        exact vg_iretI (pc := 144) (r := 0) (dK D_FP_form_1 6 rfl) rfl (leK rfl) (leK rfl) (xf hfl) (by obtain rfl := Option.some.inj h; exact KT_ok ⟨rfl, (inRk rfl), rfl⟩)
    replace h := ifN h hk16
    refine vg_tabD (pc := 17) (t := 145) (lo := 0) (hi := 7) (dK D_FP_form_0 9 rfl) ha2 (by omega) rfl ?_
    refine vg_iconst (pc := 145) (dK D_FP_form_1 7 rfl) ?_
    exact vg_iretI (pc := 146) (r := (-1)) (dK D_FP_form_1 8 rfl) rfl (leK rfl) (leK rfl) (xf hfl) (by obtain rfl := Option.some.inj h; exact KT_ok ⟨rfl, (inRk rfl), rfl⟩)
  · replace h := ifN h he19
    obtain rfl := Option.some.inj h
    exact KT_thr he19
def lb_FP_revenueOf_21 (c0 : Nat) (a1 : Int) (c2 : Nat) (S : St) (go : Int × Int → Option (Int)) (a3 : Int) (a4 : Int) : Option (Int) := if (g S c2 7) ≤ a4 then (some a3) else (if 0 ≤ a4 ∧ a4 < 40 then (bnO (fn_Plan_formAt (tgt c0 3) (g S (tgt c2 6) a4.toNat) S) fun p3 => if p3 = a1 then (nm (wr (a3 + (g S (tgt c2 4) a4.toNat))) fun v5 => nm (wr (a4 + 1)) fun v6 => go (v5, v6)) else (nm (wr (a4 + 1)) fun v4 => go (a3, v4))) else none)
def lo_FP_revenueOf_21 (c0 : Nat) (a1 : Int) (c2 : Nat) (S : St) : Nat → Int × Int → Option (Int) := lp fun go p => lb_FP_revenueOf_21 c0 a1 c2 S go p.1 p.2
theorem tl_FP_revenueOf_21 {E : EV} {X : XT} (hfl : X.2.2.2 = false) {c0 : Nat} (hc0 : HC X 10 c0) {a1 : Int} (ha1 : inR a1) {c2 : Nat} (hc2 : HC X 0 c2) {S : St} {K : RK → PS → Prop} {q : Int} (hx : inR q → Go E M_FP_revenueOf 1 6 64 [(3, V q)] [] (WX X S) 1 6 K) : ∀ n a, lo_FP_revenueOf_21 c0 a1 c2 S n a = some q → inR a.1 → inR a.2 → Go E M_FP_revenueOf 1 6 21 [(0, .ref c0), (1, V a1), (2, .ref c2), (3, V a.1), (4, V a.2)] [] (WX X S) 1 6 K := by
  refine lp_ind (P := fun a : Int × Int => inR a.1 → inR a.2 → Go E M_FP_revenueOf 1 6 21 [(0, .ref c0), (1, V a1), (2, .ref c2), (3, V a.1), (4, V a.2)] [] (WX X S) 1 6 K) (fun go ih a h => ?_)
  obtain ⟨a3, a4⟩ := a
  intro ha3 ha4
  show Go E M_FP_revenueOf 1 6 21 [(0, .ref c0), (1, V a1), (2, .ref c2), (3, V a3), (4, V a4)] [] (WX X S) 1 6 K
  replace h : lb_FP_revenueOf_21 c0 a1 c2 S go a3 a4 = some q := h
  unfold lb_FP_revenueOf_21 at h
  refine g_iload (pc := 21) (j := 4) (dK D_FP_revenueOf 12 rfl) rfl ?_
  refine g_aloadn (pc := 23) (i0 := 2) (j := 2) (dK D_FP_revenueOf 13 rfl) rfl rfl ?_
  refine vg_getI (pc := 24) (ci := 0) (f := 7) (dK D_FP_revenueOf 14 rfl) q_120 hc2 (ltK rfl) (ltK rfl) rfl ?_
  refine vg_icmp_ge (pc := 27) (t := 64) (dK D_FP_revenueOf 15 rfl) rfl ha4 (g_in _ _ _) (fun hc8 => ?_) (fun hc8 => ?_)
  · replace h := ifP h hc8
    obtain rfl := Option.some.inj h
    refine gL_weak (ls' := [(3, V a3)]) (sbc 3 rfl sbn) ?_
    exact hx ha3
  · replace h := ifN h hc8
    refine g_aloadn (pc := 30) (i0 := 0) (j := 0) (dK D_FP_revenueOf 16 rfl) rfl rfl ?_
    refine vg_getO (pc := 31) (ci := 10) (f := 3) (dK D_FP_revenueOf 17 rfl) q_436 hc0 (ltK rfl) (ltK rfl) rfl ?_
    refine g_aloadn (pc := 34) (i0 := 2) (j := 2) (dK D_FP_revenueOf 18 rfl) rfl rfl ?_
    refine vg_getA (pc := 35) (ci := 0) (f := 6) (dK D_FP_revenueOf 19 rfl) q_114 hc2 (ltK rfl) (ltK rfl) rfl ?_
    refine g_iload (pc := 38) (j := 4) (dK D_FP_revenueOf 20 rfl) rfl ?_
    refine gdE h (fun hi2 h => ?_)
    refine vg_iaload (pc := 40) (j := a4.toNat) (dK D_FP_revenueOf 21 rfl) (hw_0_6 hc2) rfl hi2 rfl ?_
    refine bnE h (fun p3 e_p3 h => ?_)
    refine vg_cV (pc := 41) (As := [V (g S (tgt c2 6) a4.toNat)]) (rest := []) (mc' := 0) (ms' := 0) (dK D_FP_revenueOf 22 rfl) K_FP_337 (fitK rfl) (ltK rfl) (hw_10_3 hc0) rfl (leK rfl) (leK rfl) (leK rfl) (tf_Plan_formAt (hw_10_3 hc0) (g_in _ _ _) e_p3) (kcI (fun h_p3 => ?_))
    refine g_iloadn (pc := 44) (i0 := 1) (j := 1) (dK D_FP_revenueOf 23 rfl) rfl rfl ?_
    refine vg_icmp_ne (pc := 45) (t := 58) (dK D_FP_revenueOf 24 rfl) rfl h_p3 ha1 (fun hc7 => ?_) (fun hc7 => ?_)
    · replace h := ifN h hc7
      refine nmE h (fun v4 e_v4 h => ?_)
      refine vg_iinc (pc := 58) (j := 4) (a := a4) (z := 1) (ls2 := [(4, V v4), (0, .ref c0), (1, V a1), (2, .ref c2), (3, V a3)]) (dK D_FP_revenueOf 32 rfl) rfl e_v4 (ltK rfl) rfl ?_
      refine g_goto (pc := 61) (tgt := 21) (dK D_FP_revenueOf 33 rfl) rfl ?_
      refine gL_weak (ls' := [(0, .ref c0), (1, V a1), (2, .ref c2), (3, V a3), (4, V v4)]) (sbc 1 rfl (sbc 2 rfl (sbc 3 rfl (sbc 4 rfl (sbc 0 rfl sbn))))) ?_
      replace h := ih _ h
      exact h ha3 (Vn_in e_v4)
    · replace h := ifP h hc7
      refine g_iloadn (pc := 48) (i0 := 3) (j := 3) (dK D_FP_revenueOf 25 rfl) rfl rfl ?_
      refine g_aloadn (pc := 49) (i0 := 2) (j := 2) (dK D_FP_revenueOf 26 rfl) rfl rfl ?_
      refine vg_getA (pc := 50) (ci := 0) (f := 4) (dK D_FP_revenueOf 27 rfl) q_105 hc2 (ltK rfl) (ltK rfl) rfl ?_
      refine g_iload (pc := 53) (j := 4) (dK D_FP_revenueOf 28 rfl) rfl ?_
      refine vg_iaload (pc := 55) (j := a4.toNat) (dK D_FP_revenueOf 29 rfl) (hw_0_4 hc2) rfl hi2 rfl ?_
      refine vg_iadd (pc := 56) (dK D_FP_revenueOf 30 rfl) ?_
      refine nmE h (fun v5 e_v5 h => ?_)
      refine gtop e_v5 ?_
      refine g_istoren (pc := 57) (i0 := 3) (ls2 := [(3, V v5), (0, .ref c0), (1, V a1), (2, .ref c2), (4, V a4)]) (dK D_FP_revenueOf 31 rfl) rfl (ltK rfl) rfl ?_
      refine nmE h (fun v6 e_v6 h => ?_)
      refine vg_iinc (pc := 58) (j := 4) (a := a4) (z := 1) (ls2 := [(4, V v6), (3, V v5), (0, .ref c0), (1, V a1), (2, .ref c2)]) (dK D_FP_revenueOf 32 rfl) rfl e_v6 (ltK rfl) rfl ?_
      refine g_goto (pc := 61) (tgt := 21) (dK D_FP_revenueOf 33 rfl) rfl ?_
      refine gL_weak (ls' := [(0, .ref c0), (1, V a1), (2, .ref c2), (3, V v5), (4, V v6)]) (sbc 2 rfl (sbc 3 rfl (sbc 4 rfl (sbc 1 rfl (sbc 0 rfl sbn))))) ?_
      replace h := ih _ h
      exact h (Vn_in e_v5) (Vn_in e_v6)
def fn_FP_revenueOf (c0 : Nat) (a1 : Int) (S : St) : Option (Nat × Int) := bnO (fn_FP_needForm c0 a1 S) fun p1 => if p1 = 0 then (bnO (lo_FP_revenueOf_21 c0 a1 (tgt (tgt (tgt c0 3) 0) 0) S FU (0, 0)) fun p9 => some (0, p9)) else (some (p1, 0))
theorem tf_FP_revenueOf {E : EV} {X : XT} (hfl : X.2.2.2 = false) {c0 : Nat} (hc0 : HC X 10 c0) {a1 : Int} (ha1 : inR a1) {S : St} {q : Nat × Int} (h : fn_FP_revenueOf c0 a1 S = some q) : Ev E M_FP_revenueOf [.ref c0, V a1] (WX X S) 1 6 (KT X q.1 S (KI X q.2 S)) := by
  refine Ev.of pn_FP rfl (leK rfl) ?_
  show Go E M_FP_revenueOf 1 6 0 [(0, .ref c0), (1, V a1)] [] (WX X S) 0 0 (KT X q.1 S (KI X q.2 S))
  unfold fn_FP_revenueOf at h
  refine g_aloadn (pc := 0) (i0 := 0) (j := 0) (dK D_FP_revenueOf 0 rfl) rfl rfl ?_
  refine g_iloadn (pc := 1) (i0 := 1) (j := 1) (dK D_FP_revenueOf 1 rfl) rfl rfl ?_
  refine bnE h (fun p1 e_p1 h => ?_)
  refine vg_cV (pc := 2) (As := [V a1]) (rest := []) (mc' := 1) (ms' := 6) (dK D_FP_revenueOf 2 rfl) K_FP_223 (fitK rfl) (ltK rfl) hc0 rfl (leK rfl) (leK rfl) (leK rfl) (tf_FP_needForm hfl hc0 ha1 e_p1) (kcT hfl (fun he10 => kcU ?_) (fun he10 => ⟨rfl, ?_⟩))
  · replace h := ifP h he10
    refine g_aloadn (pc := 5) (i0 := 0) (j := 0) (dK D_FP_revenueOf 3 rfl) rfl rfl ?_
    refine vg_getO (pc := 6) (ci := 10) (f := 3) (dK D_FP_revenueOf 4 rfl) q_436 hc0 (ltK rfl) (ltK rfl) rfl ?_
    refine vg_getO (pc := 9) (ci := 4) (f := 0) (dK D_FP_revenueOf 5 rfl) q_303 (hw_10_3 hc0) (ltK rfl) (ltK rfl) rfl ?_
    refine vg_getO (pc := 12) (ci := 8) (f := 0) (dK D_FP_revenueOf 6 rfl) q_235 (hw_4_0 (hw_10_3 hc0)) (ltK rfl) (ltK rfl) rfl ?_
    refine g_astoren (pc := 15) (i0 := 2) (ls2 := [(2, .ref (tgt (tgt (tgt c0 3) 0) 0)), (0, .ref c0), (1, V a1)]) (dK D_FP_revenueOf 7 rfl) rfl (ltK rfl) rfl ?_
    refine vg_iconst (pc := 16) (dK D_FP_revenueOf 8 rfl) ?_
    refine g_istoren (pc := 17) (i0 := 3) (ls2 := [(3, V 0), (2, .ref (tgt (tgt (tgt c0 3) 0) 0)), (0, .ref c0), (1, V a1)]) (dK D_FP_revenueOf 9 rfl) rfl (ltK rfl) rfl ?_
    refine vg_iconst (pc := 18) (dK D_FP_revenueOf 10 rfl) ?_
    refine g_istore (pc := 19) (ls2 := [(4, V 0), (3, V 0), (2, .ref (tgt (tgt (tgt c0 3) 0) 0)), (0, .ref c0), (1, V a1)]) (dK D_FP_revenueOf 11 rfl) (ltK rfl) rfl ?_
    refine bnE h (fun p9 e_p9 h => ?_)
    refine gL_weak (ls' := [(0, .ref c0), (1, V a1), (2, .ref (tgt (tgt (tgt c0 3) 0) 0)), (3, V 0), (4, V 0)]) (sbc 3 rfl (sbc 4 rfl (sbc 2 rfl (sbc 1 rfl (sbc 0 rfl sbn))))) ?_
    refine tl_FP_revenueOf_21 hfl hc0 ha1 (hw_8_0 (hw_4_0 (hw_10_3 hc0))) (fun hx3_p9 => ?_) FU (0, 0) e_p9 (inRk rfl) (inRk rfl)
    refine g_iloadn (pc := 64) (i0 := 3) (j := 0) (dK D_FP_revenueOf 34 rfl) rfl rfl ?_
    exact vg_iretI (pc := 65) (r := p9) (dK D_FP_revenueOf 35 rfl) rfl (leK rfl) (leK rfl) (xf hfl) (by obtain rfl := Option.some.inj h; exact KT_ok ⟨rfl, hx3_p9, rfl⟩)
  · replace h := ifN h he10
    obtain rfl := Option.some.inj h
    exact KT_thr he10
def fn_Integer_bitCount (a0 : Int) (S : St) : Option (Int) := nm (wr (a0 - (i_and (i_ushr a0 1) 1431655765))) fun v1 => nm (wr ((i_and v1 858993459) + (i_and (i_ushr v1 2) 858993459))) fun v2 => nm (wr ((i_and (v2 + (i_ushr v2 4)) 252645135) + (i_ushr (i_and (v2 + (i_ushr v2 4)) 252645135) 8))) fun v3 => nm (wr (v3 + (i_ushr v3 16))) fun v4 => some (i_and v4 63)
theorem tf_Integer_bitCount {E : EV} {X : XT} {a0 : Int} (ha0 : inR a0) {S : St} {q : Int} (h : fn_Integer_bitCount a0 S = some q) : Ev E M_Integer_bitCount [V a0] (WX X S) 0 0 (KI X q S) := by
  refine Ev.of pn_Integer rfl (leK rfl) ?_
  show Go E M_Integer_bitCount 0 0 0 [(0, V a0)] [] (WX X S) 0 0 (KI X q S)
  unfold fn_Integer_bitCount at h
  refine g_iloadn (pc := 0) (i0 := 0) (j := 0) (dK D_Integer_bitCount 0 rfl) rfl rfl ?_
  refine g_iloadn (pc := 1) (i0 := 0) (j := 0) (dK D_Integer_bitCount 1 rfl) rfl rfl ?_
  refine vg_iconst (pc := 2) (dK D_Integer_bitCount 2 rfl) ?_
  refine vg_iushr (pc := 3) (dK D_Integer_bitCount 3 rfl) ?_
  refine vg_ldcw (pc := 4) (y := 1431655765) (dK D_Integer_bitCount 4 rfl) q_1576 rfl ?_
  refine vg_iand (pc := 7) (dK D_Integer_bitCount 5 rfl) ?_
  refine vg_isub (pc := 8) (dK D_Integer_bitCount 6 rfl) ?_
  refine nmE h (fun v1 e_v1 h => ?_)
  refine gtop e_v1 ?_
  refine g_istoren (pc := 9) (i0 := 0) (ls2 := [(0, V v1)]) (dK D_Integer_bitCount 7 rfl) rfl (ltK rfl) rfl ?_
  refine g_iloadn (pc := 10) (i0 := 0) (j := 0) (dK D_Integer_bitCount 8 rfl) rfl rfl ?_
  refine vg_ldcw (pc := 11) (y := 858993459) (dK D_Integer_bitCount 9 rfl) q_1577 rfl ?_
  refine vg_iand (pc := 14) (dK D_Integer_bitCount 10 rfl) ?_
  refine g_iloadn (pc := 15) (i0 := 0) (j := 0) (dK D_Integer_bitCount 11 rfl) rfl rfl ?_
  refine vg_iconst (pc := 16) (dK D_Integer_bitCount 12 rfl) ?_
  refine vg_iushr (pc := 17) (dK D_Integer_bitCount 13 rfl) ?_
  refine vg_ldcw (pc := 18) (y := 858993459) (dK D_Integer_bitCount 14 rfl) q_1577 rfl ?_
  refine vg_iand (pc := 21) (dK D_Integer_bitCount 15 rfl) ?_
  refine vg_iadd (pc := 22) (dK D_Integer_bitCount 16 rfl) ?_
  refine nmE h (fun v2 e_v2 h => ?_)
  refine gtop e_v2 ?_
  refine g_istoren (pc := 23) (i0 := 0) (ls2 := [(0, V v2)]) (dK D_Integer_bitCount 17 rfl) rfl (ltK rfl) rfl ?_
  refine g_iloadn (pc := 24) (i0 := 0) (j := 0) (dK D_Integer_bitCount 18 rfl) rfl rfl ?_
  refine g_iloadn (pc := 25) (i0 := 0) (j := 0) (dK D_Integer_bitCount 19 rfl) rfl rfl ?_
  refine vg_iconst (pc := 26) (dK D_Integer_bitCount 20 rfl) ?_
  refine vg_iushr (pc := 27) (dK D_Integer_bitCount 21 rfl) ?_
  refine vg_iadd (pc := 28) (dK D_Integer_bitCount 22 rfl) ?_
  refine vg_ldcw (pc := 29) (y := 252645135) (dK D_Integer_bitCount 23 rfl) q_1578 rfl ?_
  refine vg_iand (pc := 32) (dK D_Integer_bitCount 24 rfl) ?_
  refine g_istoren (pc := 33) (i0 := 0) (ls2 := [(0, V (i_and (v2 + (i_ushr v2 4)) 252645135))]) (dK D_Integer_bitCount 25 rfl) rfl (ltK rfl) rfl ?_
  refine g_iloadn (pc := 34) (i0 := 0) (j := 0) (dK D_Integer_bitCount 26 rfl) rfl rfl ?_
  refine g_iloadn (pc := 35) (i0 := 0) (j := 0) (dK D_Integer_bitCount 27 rfl) rfl rfl ?_
  refine vg_bipush (pc := 36) (dK D_Integer_bitCount 28 rfl) rfl ?_
  refine vg_iushr (pc := 38) (dK D_Integer_bitCount 29 rfl) ?_
  refine vg_iadd (pc := 39) (dK D_Integer_bitCount 30 rfl) ?_
  refine nmE h (fun v3 e_v3 h => ?_)
  refine gtop e_v3 ?_
  refine g_istoren (pc := 40) (i0 := 0) (ls2 := [(0, V v3)]) (dK D_Integer_bitCount 31 rfl) rfl (ltK rfl) rfl ?_
  refine g_iloadn (pc := 41) (i0 := 0) (j := 0) (dK D_Integer_bitCount 32 rfl) rfl rfl ?_
  refine g_iloadn (pc := 42) (i0 := 0) (j := 0) (dK D_Integer_bitCount 33 rfl) rfl rfl ?_
  refine vg_bipush (pc := 43) (dK D_Integer_bitCount 34 rfl) rfl ?_
  refine vg_iushr (pc := 45) (dK D_Integer_bitCount 35 rfl) ?_
  refine vg_iadd (pc := 46) (dK D_Integer_bitCount 36 rfl) ?_
  refine nmE h (fun v4 e_v4 h => ?_)
  refine gtop e_v4 ?_
  refine g_istoren (pc := 47) (i0 := 0) (ls2 := [(0, V v4)]) (dK D_Integer_bitCount 37 rfl) rfl (ltK rfl) rfl ?_
  refine g_iloadn (pc := 48) (i0 := 0) (j := 0) (dK D_Integer_bitCount 38 rfl) rfl rfl ?_
  refine vg_bipush (pc := 49) (dK D_Integer_bitCount 39 rfl) rfl ?_
  refine vg_iand (pc := 51) (dK D_Integer_bitCount 40 rfl) ?_
  exact vg_iretI (pc := 52) (r := (i_and v4 63)) (dK D_Integer_bitCount 41 rfl) rfl (leK rfl) (leK rfl) (fun _ => rfl) (by obtain rfl := Option.some.inj h; exact ⟨rfl, (toInt_in _), rfl⟩)
def lb_Searches_leftOnSet_4 (c0 : Nat) (a1 : Int) (S : St) (go : Int × Int → Option ((Int) ⊕ (Int))) (a2 : Int) (a3 : Int) : Option ((Int) ⊕ (Int)) := if (g S (tgt c0 0) 2) ≤ a3 then (some (.inr a2)) else (if (i_and (i_shr a1 a3) 1) = 1 then (if 0 ≤ a3 ∧ a3 < 8 then (if (g S (tgt (tgt (tgt c0 1) 3) 1) a3.toNat) = 1 then (some (.inl (-1))) else (if (g S (tgt (tgt (tgt c0 1) 3) 0) a3.toNat) = 1 then (some (.inl (-1))) else (bnO (fn_Plan_leftOnForm (tgt c0 0) a3 S) fun p3 => nm (wr (a2 + p3)) fun v4 => nm (wr (a3 + 1)) fun v5 => go (v4, v5)))) else none) else (nm (wr (a3 + 1)) fun v1 => go (a2, v1)))
def lo_Searches_leftOnSet_4 (c0 : Nat) (a1 : Int) (S : St) : Nat → Int × Int → Option ((Int) ⊕ (Int)) := lp fun go p => lb_Searches_leftOnSet_4 c0 a1 S go p.1 p.2
theorem tl_Searches_leftOnSet_4 {E : EV} {X : XT} {c0 : Nat} (hc0 : HC X 6 c0) {a1 : Int} (ha1 : inR a1) {S : St} {K : RK → PS → Prop} {q : (Int) ⊕ (Int)} (hx : ∀ p, q = .inr p → inR p → Go E M_Searches_leftOnSet 0 0 75 [(2, V p)] [] (WX X S) 0 0 K) (hr : ∀ p, q = .inl p → inR p → K (.inl (some (V p))) (WX X S)) : ∀ n a, lo_Searches_leftOnSet_4 c0 a1 S n a = some q → inR a.1 → inR a.2 → Go E M_Searches_leftOnSet 0 0 4 [(0, .ref c0), (1, V a1), (2, V a.1), (3, V a.2)] [] (WX X S) 0 0 K := by
  refine lp_ind (P := fun a : Int × Int => inR a.1 → inR a.2 → Go E M_Searches_leftOnSet 0 0 4 [(0, .ref c0), (1, V a1), (2, V a.1), (3, V a.2)] [] (WX X S) 0 0 K) (fun go ih a h => ?_)
  obtain ⟨a2, a3⟩ := a
  intro ha2 ha3
  show Go E M_Searches_leftOnSet 0 0 4 [(0, .ref c0), (1, V a1), (2, V a2), (3, V a3)] [] (WX X S) 0 0 K
  replace h : lb_Searches_leftOnSet_4 c0 a1 S go a2 a3 = some q := h
  unfold lb_Searches_leftOnSet_4 at h
  refine g_iloadn (pc := 4) (i0 := 3) (j := 3) (dK D_Searches_leftOnSet 4 rfl) rfl rfl ?_
  refine g_aloadn (pc := 5) (i0 := 0) (j := 0) (dK D_Searches_leftOnSet 5 rfl) rfl rfl ?_
  refine vg_getO (pc := 6) (ci := 6) (f := 0) (dK D_Searches_leftOnSet 6 rfl) q_379 hc0 (ltK rfl) (ltK rfl) rfl ?_
  refine vg_getI (pc := 9) (ci := 4) (f := 2) (dK D_Searches_leftOnSet 7 rfl) q_312 (hw_6_0 hc0) (ltK rfl) (ltK rfl) rfl ?_
  refine vg_icmp_ge (pc := 12) (t := 75) (dK D_Searches_leftOnSet 8 rfl) rfl ha3 (g_in _ _ _) (fun hc9 => ?_) (fun hc9 => ?_)
  · replace h := ifP h hc9
    refine gL_weak (ls' := [(2, V a2)]) (sbc 2 rfl sbn) ?_
    exact hx _ (Option.some.inj h).symm ha2
  · replace h := ifN h hc9
    refine g_iloadn (pc := 15) (i0 := 1) (j := 1) (dK D_Searches_leftOnSet 9 rfl) rfl rfl ?_
    refine g_iloadn (pc := 16) (i0 := 3) (j := 3) (dK D_Searches_leftOnSet 10 rfl) rfl rfl ?_
    refine vg_ishr (pc := 17) (dK D_Searches_leftOnSet 11 rfl) ?_
    refine vg_iconst (pc := 18) (dK D_Searches_leftOnSet 12 rfl) ?_
    refine vg_iand (pc := 19) (dK D_Searches_leftOnSet 13 rfl) ?_
    refine vg_iconst (pc := 20) (dK D_Searches_leftOnSet 14 rfl) ?_
    refine vg_icmp_ne (pc := 21) (t := 69) (dK D_Searches_leftOnSet 15 rfl) rfl (toInt_in _) (inRk rfl) (fun hc8 => ?_) (fun hc8 => ?_)
    · replace h := ifN h hc8
      refine nmE h (fun v1 e_v1 h => ?_)
      refine vg_iinc (pc := 69) (j := 3) (a := a3) (z := 1) (ls2 := [(3, V v1), (0, .ref c0), (1, V a1), (2, V a2)]) (dK D_Searches_leftOnSet 41 rfl) rfl e_v1 (ltK rfl) rfl ?_
      refine g_goto (pc := 72) (tgt := 4) (dK D_Searches_leftOnSet 42 rfl) rfl ?_
      refine gL_weak (ls' := [(0, .ref c0), (1, V a1), (2, V a2), (3, V v1)]) (sbc 1 rfl (sbc 2 rfl (sbc 3 rfl (sbc 0 rfl sbn)))) ?_
      replace h := ih _ h
      exact h ha2 (Vn_in e_v1)
    · replace h := ifP h hc8
      refine g_aloadn (pc := 24) (i0 := 0) (j := 0) (dK D_Searches_leftOnSet 16 rfl) rfl rfl ?_
      refine vg_getO (pc := 25) (ci := 6) (f := 1) (dK D_Searches_leftOnSet 17 rfl) q_381 hc0 (ltK rfl) (ltK rfl) rfl ?_
      refine vg_getO (pc := 28) (ci := 8) (f := 3) (dK D_Searches_leftOnSet 18 rfl) q_249 (hw_6_1 hc0) (ltK rfl) (ltK rfl) rfl ?_
      refine vg_getA (pc := 31) (ci := 2) (f := 1) (dK D_Searches_leftOnSet 19 rfl) q_219 (hw_8_3 (hw_6_1 hc0)) (ltK rfl) (ltK rfl) rfl ?_
      refine g_iloadn (pc := 34) (i0 := 3) (j := 3) (dK D_Searches_leftOnSet 20 rfl) rfl rfl ?_
      refine gdE h (fun hi2 h => ?_)
      refine vg_iaload (pc := 35) (j := a3.toNat) (dK D_Searches_leftOnSet 21 rfl) (hw_2_1 (hw_8_3 (hw_6_1 hc0))) rfl hi2 rfl ?_
      refine vg_iconst (pc := 36) (dK D_Searches_leftOnSet 22 rfl) ?_
      refine vg_icmp_eq (pc := 37) (t := 56) (dK D_Searches_leftOnSet 23 rfl) rfl (g_in _ _ _) (inRk rfl) (fun hc7 => ?_) (fun hc7 => ?_)
      · replace h := ifP h hc7
        refine vg_iconst (pc := 56) (dK D_Searches_leftOnSet 32 rfl) ?_
        exact vg_iretI (pc := 57) (r := (-1)) (dK D_Searches_leftOnSet 33 rfl) rfl (leK rfl) (leK rfl) (fun _ => rfl) (hr _ (Option.some.inj h).symm (inRk rfl))
      · replace h := ifN h hc7
        refine g_aloadn (pc := 40) (i0 := 0) (j := 0) (dK D_Searches_leftOnSet 24 rfl) rfl rfl ?_
        refine vg_getO (pc := 41) (ci := 6) (f := 1) (dK D_Searches_leftOnSet 25 rfl) q_381 hc0 (ltK rfl) (ltK rfl) rfl ?_
        refine vg_getO (pc := 44) (ci := 8) (f := 3) (dK D_Searches_leftOnSet 26 rfl) q_249 (hw_6_1 hc0) (ltK rfl) (ltK rfl) rfl ?_
        refine vg_getA (pc := 47) (ci := 2) (f := 0) (dK D_Searches_leftOnSet 27 rfl) q_215 (hw_8_3 (hw_6_1 hc0)) (ltK rfl) (ltK rfl) rfl ?_
        refine g_iloadn (pc := 50) (i0 := 3) (j := 3) (dK D_Searches_leftOnSet 28 rfl) rfl rfl ?_
        refine vg_iaload (pc := 51) (j := a3.toNat) (dK D_Searches_leftOnSet 29 rfl) (hw_2_0 (hw_8_3 (hw_6_1 hc0))) rfl hi2 rfl ?_
        refine vg_iconst (pc := 52) (dK D_Searches_leftOnSet 30 rfl) ?_
        refine vg_icmp_ne (pc := 53) (t := 58) (dK D_Searches_leftOnSet 31 rfl) rfl (g_in _ _ _) (inRk rfl) (fun hc6 => ?_) (fun hc6 => ?_)
        · replace h := ifN h hc6
          refine g_iloadn (pc := 58) (i0 := 2) (j := 2) (dK D_Searches_leftOnSet 34 rfl) rfl rfl ?_
          refine g_aloadn (pc := 59) (i0 := 0) (j := 0) (dK D_Searches_leftOnSet 35 rfl) rfl rfl ?_
          refine vg_getO (pc := 60) (ci := 6) (f := 0) (dK D_Searches_leftOnSet 36 rfl) q_379 hc0 (ltK rfl) (ltK rfl) rfl ?_
          refine g_iloadn (pc := 63) (i0 := 3) (j := 3) (dK D_Searches_leftOnSet 37 rfl) rfl rfl ?_
          refine bnE h (fun p3 e_p3 h => ?_)
          refine vg_cV (pc := 64) (As := [V a3]) (rest := [V a2]) (mc' := 0) (ms' := 0) (dK D_Searches_leftOnSet 38 rfl) K_Searches_178 (fitK rfl) (ltK rfl) (hw_6_0 hc0) rfl (leK rfl) (leK rfl) (leK rfl) (tf_Plan_leftOnForm (hw_6_0 hc0) ha3 e_p3) (kcI (fun h_p3 => ?_))
          refine vg_iadd (pc := 67) (dK D_Searches_leftOnSet 39 rfl) ?_
          refine nmE h (fun v4 e_v4 h => ?_)
          refine gtop e_v4 ?_
          refine g_istoren (pc := 68) (i0 := 2) (ls2 := [(2, V v4), (0, .ref c0), (1, V a1), (3, V a3)]) (dK D_Searches_leftOnSet 40 rfl) rfl (ltK rfl) rfl ?_
          refine nmE h (fun v5 e_v5 h => ?_)
          refine vg_iinc (pc := 69) (j := 3) (a := a3) (z := 1) (ls2 := [(3, V v5), (2, V v4), (0, .ref c0), (1, V a1)]) (dK D_Searches_leftOnSet 41 rfl) rfl e_v5 (ltK rfl) rfl ?_
          refine g_goto (pc := 72) (tgt := 4) (dK D_Searches_leftOnSet 42 rfl) rfl ?_
          refine gL_weak (ls' := [(0, .ref c0), (1, V a1), (2, V v4), (3, V v5)]) (sbc 2 rfl (sbc 3 rfl (sbc 1 rfl (sbc 0 rfl sbn)))) ?_
          replace h := ih _ h
          exact h (Vn_in e_v4) (Vn_in e_v5)
        · replace h := ifP h hc6
          refine vg_iconst (pc := 56) (dK D_Searches_leftOnSet 32 rfl) ?_
          exact vg_iretI (pc := 57) (r := (-1)) (dK D_Searches_leftOnSet 33 rfl) rfl (leK rfl) (leK rfl) (fun _ => rfl) (hr _ (Option.some.inj h).symm (inRk rfl))
def fn_Searches_leftOnSet (c0 : Nat) (a1 : Int) (S : St) : Option (Int) := bnS (lo_Searches_leftOnSet_4 c0 a1 S FU (0, 0)) (fun p11 => some p11) fun p10 => some p10
theorem tf_Searches_leftOnSet {E : EV} {X : XT} {c0 : Nat} (hc0 : HC X 6 c0) {a1 : Int} (ha1 : inR a1) {S : St} {q : Int} (h : fn_Searches_leftOnSet c0 a1 S = some q) : Ev E M_Searches_leftOnSet [.ref c0, V a1] (WX X S) 0 0 (KI X q S) := by
  refine Ev.of pn_Searches rfl (leK rfl) ?_
  show Go E M_Searches_leftOnSet 0 0 0 [(0, .ref c0), (1, V a1)] [] (WX X S) 0 0 (KI X q S)
  unfold fn_Searches_leftOnSet at h
  refine vg_iconst (pc := 0) (dK D_Searches_leftOnSet 0 rfl) ?_
  refine g_istoren (pc := 1) (i0 := 2) (ls2 := [(2, V 0), (0, .ref c0), (1, V a1)]) (dK D_Searches_leftOnSet 1 rfl) rfl (ltK rfl) rfl ?_
  refine vg_iconst (pc := 2) (dK D_Searches_leftOnSet 2 rfl) ?_
  refine g_istoren (pc := 3) (i0 := 3) (ls2 := [(3, V 0), (2, V 0), (0, .ref c0), (1, V a1)]) (dK D_Searches_leftOnSet 3 rfl) rfl (ltK rfl) rfl ?_
  refine bnSE h (fun p11 e_p11 h => ?_) (fun p10 e_p10 h => ?_)
  · refine gL_weak (ls' := [(0, .ref c0), (1, V a1), (2, V 0), (3, V 0)]) (sbc 2 rfl (sbc 3 rfl (sbc 1 rfl (sbc 0 rfl sbn)))) ?_
    refine tl_Searches_leftOnSet_4 hc0 ha1 (fun _ e => slr e) (fun p e hr_p11 => ?_) FU (0, 0) e_p11 (inRk rfl) (inRk rfl)
    have e := Sum.inl.inj e
    subst e
    exact (by obtain rfl := Option.some.inj h; exact ⟨rfl, hr_p11, rfl⟩)
  · refine gL_weak (ls' := [(0, .ref c0), (1, V a1), (2, V 0), (3, V 0)]) (sbc 2 rfl (sbc 3 rfl (sbc 1 rfl (sbc 0 rfl sbn)))) ?_
    refine tl_Searches_leftOnSet_4 hc0 ha1 (fun p e hx2_p10 => ?_) (fun _ e => srl e) FU (0, 0) e_p10 (inRk rfl) (inRk rfl)
    have e := Sum.inr.inj e
    subst e
    refine g_iloadn (pc := 75) (i0 := 2) (j := 0) (dK D_Searches_leftOnSet 43 rfl) rfl rfl ?_
    exact vg_iretI (pc := 76) (r := p10) (dK D_Searches_leftOnSet 44 rfl) rfl (leK rfl) (leK rfl) (fun _ => rfl) (by obtain rfl := Option.some.inj h; exact ⟨rfl, hx2_p10, rfl⟩)
def lb_Searches_roomiestForms_7 (c0 : Nat) (a1 : Int) (S : St) (go : Int × Int × Int → Option (Int)) (a2 : Int) (a3 : Int) (a4 : Int) : Option (Int) := if (i_shl 1 (g S (tgt c0 0) 2)) ≤ a4 then (some a2) else (bnO (fn_Integer_bitCount a4 S) fun p1 => if p1 = a1 then (bnO (fn_Searches_leftOnSet c0 a4 S) fun p3 => if p3 ≤ a3 then (nm (wr (a4 + 1)) fun v4 => go (a2, a3, v4)) else (nm (wr (a4 + 1)) fun v5 => go (a4, p3, v5))) else (nm (wr (a4 + 1)) fun v2 => go (a2, a3, v2)))
def lo_Searches_roomiestForms_7 (c0 : Nat) (a1 : Int) (S : St) : Nat → Int × Int × Int → Option (Int) := lp fun go p => lb_Searches_roomiestForms_7 c0 a1 S go p.1 p.2.1 p.2.2
theorem tl_Searches_roomiestForms_7 {E : EV} {X : XT} {c0 : Nat} (hc0 : HC X 6 c0) {a1 : Int} (ha1 : inR a1) {S : St} {K : RK → PS → Prop} {q : Int} (hx : inR q → Go E M_Searches_roomiestForms 0 0 56 [(2, V q)] [] (WX X S) 0 0 K) : ∀ n a, lo_Searches_roomiestForms_7 c0 a1 S n a = some q → inR a.1 → inR a.2.1 → inR a.2.2 → Go E M_Searches_roomiestForms 0 0 7 [(0, .ref c0), (1, V a1), (2, V a.1), (3, V a.2.1), (4, V a.2.2)] [] (WX X S) 0 0 K := by
  refine lp_ind (P := fun a : Int × Int × Int => inR a.1 → inR a.2.1 → inR a.2.2 → Go E M_Searches_roomiestForms 0 0 7 [(0, .ref c0), (1, V a1), (2, V a.1), (3, V a.2.1), (4, V a.2.2)] [] (WX X S) 0 0 K) (fun go ih a h => ?_)
  obtain ⟨a2, a3, a4⟩ := a
  intro ha2 ha3 ha4
  show Go E M_Searches_roomiestForms 0 0 7 [(0, .ref c0), (1, V a1), (2, V a2), (3, V a3), (4, V a4)] [] (WX X S) 0 0 K
  replace h : lb_Searches_roomiestForms_7 c0 a1 S go a2 a3 a4 = some q := h
  unfold lb_Searches_roomiestForms_7 at h
  refine g_iload (pc := 7) (j := 4) (dK D_Searches_roomiestForms 6 rfl) rfl ?_
  refine vg_iconst (pc := 9) (dK D_Searches_roomiestForms 7 rfl) ?_
  refine g_aloadn (pc := 10) (i0 := 0) (j := 0) (dK D_Searches_roomiestForms 8 rfl) rfl rfl ?_
  refine vg_getO (pc := 11) (ci := 6) (f := 0) (dK D_Searches_roomiestForms 9 rfl) q_379 hc0 (ltK rfl) (ltK rfl) rfl ?_
  refine vg_getI (pc := 14) (ci := 4) (f := 2) (dK D_Searches_roomiestForms 10 rfl) q_312 (hw_6_0 hc0) (ltK rfl) (ltK rfl) rfl ?_
  refine vg_ishl (pc := 17) (dK D_Searches_roomiestForms 11 rfl) ?_
  refine vg_icmp_ge (pc := 18) (t := 56) (dK D_Searches_roomiestForms 12 rfl) rfl ha4 (toInt_in _) (fun hc8 => ?_) (fun hc8 => ?_)
  · replace h := ifP h hc8
    obtain rfl := Option.some.inj h
    refine gL_weak (ls' := [(2, V a2)]) (sbc 2 rfl sbn) ?_
    exact hx ha2
  · replace h := ifN h hc8
    refine g_iload (pc := 21) (j := 4) (dK D_Searches_roomiestForms 13 rfl) rfl ?_
    refine bnE h (fun p1 e_p1 h => ?_)
    refine vg_cS (pc := 23) (As := [V a4]) (rest := []) (mc' := 0) (ms' := 0) (dK D_Searches_roomiestForms 14 rfl) K_Searches_159 (fitK rfl) rfl (leK rfl) (leK rfl) (leK rfl) (tf_Integer_bitCount ha4 e_p1) (kcI (fun h_p1 => ?_))
    refine g_iloadn (pc := 26) (i0 := 1) (j := 1) (dK D_Searches_roomiestForms 15 rfl) rfl rfl ?_
    refine vg_icmp_ne (pc := 27) (t := 50) (dK D_Searches_roomiestForms 16 rfl) rfl h_p1 ha1 (fun hc7 => ?_) (fun hc7 => ?_)
    · replace h := ifN h hc7
      refine nmE h (fun v2 e_v2 h => ?_)
      refine vg_iinc (pc := 50) (j := 4) (a := a4) (z := 1) (ls2 := [(4, V v2), (0, .ref c0), (1, V a1), (2, V a2), (3, V a3)]) (dK D_Searches_roomiestForms 28 rfl) rfl e_v2 (ltK rfl) rfl ?_
      refine g_goto (pc := 53) (tgt := 7) (dK D_Searches_roomiestForms 29 rfl) rfl ?_
      refine gL_weak (ls' := [(0, .ref c0), (1, V a1), (2, V a2), (3, V a3), (4, V v2)]) (sbc 1 rfl (sbc 2 rfl (sbc 3 rfl (sbc 4 rfl (sbc 0 rfl sbn))))) ?_
      replace h := ih _ h
      exact h ha2 ha3 (Vn_in e_v2)
    · replace h := ifP h hc7
      refine g_aloadn (pc := 30) (i0 := 0) (j := 0) (dK D_Searches_roomiestForms 17 rfl) rfl rfl ?_
      refine g_iload (pc := 31) (j := 4) (dK D_Searches_roomiestForms 18 rfl) rfl ?_
      refine bnE h (fun p3 e_p3 h => ?_)
      refine vg_cV (pc := 33) (As := [V a4]) (rest := []) (mc' := 0) (ms' := 0) (dK D_Searches_roomiestForms 19 rfl) K_Searches_164 (fitK rfl) (ltK rfl) hc0 rfl (leK rfl) (leK rfl) (leK rfl) (tf_Searches_leftOnSet hc0 ha4 e_p3) (kcI (fun h_p3 => ?_))
      refine g_istore (pc := 36) (ls2 := [(5, V p3), (0, .ref c0), (1, V a1), (2, V a2), (3, V a3), (4, V a4)]) (dK D_Searches_roomiestForms 20 rfl) (ltK rfl) rfl ?_
      refine g_iload (pc := 38) (j := 0) (dK D_Searches_roomiestForms 21 rfl) rfl ?_
      refine g_iloadn (pc := 40) (i0 := 3) (j := 4) (dK D_Searches_roomiestForms 22 rfl) rfl rfl ?_
      refine vg_icmp_le (pc := 41) (t := 50) (dK D_Searches_roomiestForms 23 rfl) rfl h_p3 ha3 (fun hc6 => ?_) (fun hc6 => ?_)
      · replace h := ifP h hc6
        refine nmE h (fun v4 e_v4 h => ?_)
        refine vg_iinc (pc := 50) (j := 5) (a := a4) (z := 1) (ls2 := [(4, V v4), (5, V p3), (0, .ref c0), (1, V a1), (2, V a2), (3, V a3)]) (dK D_Searches_roomiestForms 28 rfl) rfl e_v4 (ltK rfl) rfl ?_
        refine g_goto (pc := 53) (tgt := 7) (dK D_Searches_roomiestForms 29 rfl) rfl ?_
        refine gL_weak (ls' := [(0, .ref c0), (1, V a1), (2, V a2), (3, V a3), (4, V v4)]) (sbc 2 rfl (sbc 3 rfl (sbc 4 rfl (sbc 5 rfl (sbc 0 rfl sbn))))) ?_
        replace h := ih _ h
        exact h ha2 ha3 (Vn_in e_v4)
      · replace h := ifN h hc6
        refine g_iload (pc := 44) (j := 5) (dK D_Searches_roomiestForms 24 rfl) rfl ?_
        refine g_istoren (pc := 46) (i0 := 2) (ls2 := [(2, V a4), (5, V p3), (0, .ref c0), (1, V a1), (3, V a3), (4, V a4)]) (dK D_Searches_roomiestForms 25 rfl) rfl (ltK rfl) rfl ?_
        refine g_iload (pc := 47) (j := 1) (dK D_Searches_roomiestForms 26 rfl) rfl ?_
        refine g_istoren (pc := 49) (i0 := 3) (ls2 := [(3, V p3), (2, V a4), (5, V p3), (0, .ref c0), (1, V a1), (4, V a4)]) (dK D_Searches_roomiestForms 27 rfl) rfl (ltK rfl) rfl ?_
        refine nmE h (fun v5 e_v5 h => ?_)
        refine vg_iinc (pc := 50) (j := 5) (a := a4) (z := 1) (ls2 := [(4, V v5), (3, V p3), (2, V a4), (5, V p3), (0, .ref c0), (1, V a1)]) (dK D_Searches_roomiestForms 28 rfl) rfl e_v5 (ltK rfl) rfl ?_
        refine g_goto (pc := 53) (tgt := 7) (dK D_Searches_roomiestForms 29 rfl) rfl ?_
        refine gL_weak (ls' := [(0, .ref c0), (1, V a1), (2, V a4), (3, V p3), (4, V v5)]) (sbc 4 rfl (sbc 5 rfl (sbc 2 rfl (sbc 1 rfl (sbc 0 rfl sbn))))) ?_
        replace h := ih _ h
        exact h ha4 h_p3 (Vn_in e_v5)
def fn_Searches_roomiestForms (c0 : Nat) (a1 : Int) (S : St) : Option (Int) := bnO (lo_Searches_roomiestForms_7 c0 a1 S FU (0, (-1), 1)) fun p9 => some p9
theorem tf_Searches_roomiestForms {E : EV} {X : XT} {c0 : Nat} (hc0 : HC X 6 c0) {a1 : Int} (ha1 : inR a1) {S : St} {q : Int} (h : fn_Searches_roomiestForms c0 a1 S = some q) : Ev E M_Searches_roomiestForms [.ref c0, V a1] (WX X S) 0 0 (KI X q S) := by
  refine Ev.of pn_Searches rfl (leK rfl) ?_
  show Go E M_Searches_roomiestForms 0 0 0 [(0, .ref c0), (1, V a1)] [] (WX X S) 0 0 (KI X q S)
  unfold fn_Searches_roomiestForms at h
  refine vg_iconst (pc := 0) (dK D_Searches_roomiestForms 0 rfl) ?_
  refine g_istoren (pc := 1) (i0 := 2) (ls2 := [(2, V 0), (0, .ref c0), (1, V a1)]) (dK D_Searches_roomiestForms 1 rfl) rfl (ltK rfl) rfl ?_
  refine vg_iconst (pc := 2) (dK D_Searches_roomiestForms 2 rfl) ?_
  refine g_istoren (pc := 3) (i0 := 3) (ls2 := [(3, V (-1)), (2, V 0), (0, .ref c0), (1, V a1)]) (dK D_Searches_roomiestForms 3 rfl) rfl (ltK rfl) rfl ?_
  refine vg_iconst (pc := 4) (dK D_Searches_roomiestForms 4 rfl) ?_
  refine g_istore (pc := 5) (ls2 := [(4, V 1), (3, V (-1)), (2, V 0), (0, .ref c0), (1, V a1)]) (dK D_Searches_roomiestForms 5 rfl) (ltK rfl) rfl ?_
  refine bnE h (fun p9 e_p9 h => ?_)
  refine gL_weak (ls' := [(0, .ref c0), (1, V a1), (2, V 0), (3, V (-1)), (4, V 1)]) (sbc 3 rfl (sbc 4 rfl (sbc 2 rfl (sbc 1 rfl (sbc 0 rfl sbn))))) ?_
  refine tl_Searches_roomiestForms_7 hc0 ha1 (fun hx2_p9 => ?_) FU (0, (-1), 1) e_p9 (inRk rfl) (inRk rfl) (inRk rfl)
  refine g_iloadn (pc := 56) (i0 := 2) (j := 0) (dK D_Searches_roomiestForms 30 rfl) rfl rfl ?_
  exact vg_iretI (pc := 57) (r := p9) (dK D_Searches_roomiestForms 31 rfl) rfl (leK rfl) (leK rfl) (fun _ => rfl) (by obtain rfl := Option.some.inj h; exact ⟨rfl, hx2_p9, rfl⟩)
def fn_FP_bestColor (c0 : Nat) (a1 : Int) (S : St) : Option (Nat × Int) := if a1 < 1 then (some (2, 0)) else (if a1 ≤ 8 then (bnO (fn_Searches_roomiestForms (tgt c0 2) a1 S) fun p1 => some (0, p1)) else (some (2, 0)))
theorem tf_FP_bestColor {E : EV} {X : XT} (hfl : X.2.2.2 = false) {c0 : Nat} (hc0 : HC X 10 c0) {a1 : Int} (ha1 : inR a1) {S : St} {q : Nat × Int} (h : fn_FP_bestColor c0 a1 S = some q) : Ev E M_FP_bestColor [.ref c0, V a1] (WX X S) 1 6 (KT X q.1 S (KI X q.2 S)) := by
  refine Ev.of pn_FP rfl (leK rfl) ?_
  show Go E M_FP_bestColor 1 6 0 [(0, .ref c0), (1, V a1)] [] (WX X S) 0 0 (KT X q.1 S (KI X q.2 S))
  unfold fn_FP_bestColor at h
  refine g_iloadn (pc := 0) (i0 := 1) (j := 1) (dK D_FP_bestColor 0 rfl) rfl rfl ?_
  refine vg_iconst (pc := 1) (dK D_FP_bestColor 1 rfl) ?_
  refine vg_icmp_lt (pc := 2) (t := 11) (dK D_FP_bestColor 2 rfl) rfl ha1 (inRk rfl) (fun hc3 => ?_) (fun hc3 => ?_)
  · replace h := ifP h hc3
    exact vg_throwW hfl (pc := 11) TH_FP_148_304 (dK D_FP_bestColor 6 rfl) (dK D_FP_bestColor 7 rfl) (dK D_FP_bestColor 8 rfl) (dK D_FP_bestColor 9 rfl) (dK D_FP_bestColor 10 rfl) rfl (leK rfl) (leK rfl) (leK rfl) (leK rfl) (leK rfl) (by obtain rfl := Option.some.inj h; exact KT_thr (e := 2) (by decide))
  · replace h := ifN h hc3
    refine g_iloadn (pc := 5) (i0 := 1) (j := 1) (dK D_FP_bestColor 3 rfl) rfl rfl ?_
    refine vg_bipush (pc := 6) (dK D_FP_bestColor 4 rfl) rfl ?_
    refine vg_icmp_le (pc := 8) (t := 22) (dK D_FP_bestColor 5 rfl) rfl ha1 (inRk rfl) (fun hc2 => ?_) (fun hc2 => ?_)
    · replace h := ifP h hc2
      refine g_aloadn (pc := 22) (i0 := 0) (j := 0) (dK D_FP_bestColor 11 rfl) rfl rfl ?_
      refine vg_getO (pc := 23) (ci := 10) (f := 2) (dK D_FP_bestColor 12 rfl) q_435 hc0 (ltK rfl) (ltK rfl) rfl ?_
      refine g_iloadn (pc := 26) (i0 := 1) (j := 1) (dK D_FP_bestColor 13 rfl) rfl rfl ?_
      refine bnE h (fun p1 e_p1 h => ?_)
      refine vg_cV (pc := 27) (As := [V a1]) (rest := []) (mc' := 0) (ms' := 0) (dK D_FP_bestColor 14 rfl) K_FP_306 (fitK rfl) (ltK rfl) (hw_10_2 hc0) rfl (leK rfl) (leK rfl) (leK rfl) (tf_Searches_roomiestForms (hw_10_2 hc0) ha1 e_p1) (kcI (fun h_p1 => ?_))
      exact vg_iretI (pc := 30) (r := p1) (dK D_FP_bestColor 15 rfl) rfl (leK rfl) (leK rfl) (xf hfl) (by obtain rfl := Option.some.inj h; exact KT_ok ⟨rfl, h_p1, rfl⟩)
    · replace h := ifN h hc2
      exact vg_throwW hfl (pc := 11) TH_FP_148_304 (dK D_FP_bestColor 6 rfl) (dK D_FP_bestColor 7 rfl) (dK D_FP_bestColor 8 rfl) (dK D_FP_bestColor 9 rfl) (dK D_FP_bestColor 10 rfl) rfl (leK rfl) (leK rfl) (leK rfl) (leK rfl) (leK rfl) (by obtain rfl := Option.some.inj h; exact KT_thr (e := 2) (by decide))
def lb_Plan_soonestForm_4 (c0 : Nat) (S : St) (go : Int × Int → Option (Int)) (a1 : Int) (a2 : Int) : Option (Int) := if (g S c0 2) ≤ a2 then (some a1) else (if 0 ≤ a2 ∧ a2 < 8 then (if (g S (tgt (tgt (tgt c0 0) 3) 1) a2.toNat) = 0 then (if (g S (tgt (tgt (tgt c0 0) 3) 2) a2.toNat) = 0 then (nm (wr (a2 + 1)) fun v3 => go (a1, v3)) else (if a1 = (-1) then (nm (wr (a2 + 1)) fun v4 => go (a2, v4)) else (if 0 ≤ a1 ∧ a1 < 8 then (if (g S (tgt (tgt (tgt c0 0) 3) 2) a1.toNat) ≤ (g S (tgt (tgt (tgt c0 0) 3) 2) a2.toNat) then (nm (wr (a2 + 1)) fun v6 => go (a1, v6)) else (nm (wr (a2 + 1)) fun v7 => go (a2, v7))) else none))) else (nm (wr (a2 + 1)) fun v2 => go (a1, v2))) else none)
def lo_Plan_soonestForm_4 (c0 : Nat) (S : St) : Nat → Int × Int → Option (Int) := lp fun go p => lb_Plan_soonestForm_4 c0 S go p.1 p.2
theorem tl_Plan_soonestForm_4 {E : EV} {X : XT} {c0 : Nat} (hc0 : HC X 4 c0) {S : St} {K : RK → PS → Prop} {q : Int} (hx : inR q → Go E M_Plan_soonestForm 0 0 73 [(1, V q)] [] (WX X S) 0 0 K) : ∀ n a, lo_Plan_soonestForm_4 c0 S n a = some q → inR a.1 → inR a.2 → Go E M_Plan_soonestForm 0 0 4 [(0, .ref c0), (1, V a.1), (2, V a.2)] [] (WX X S) 0 0 K := by
  refine lp_ind (P := fun a : Int × Int => inR a.1 → inR a.2 → Go E M_Plan_soonestForm 0 0 4 [(0, .ref c0), (1, V a.1), (2, V a.2)] [] (WX X S) 0 0 K) (fun go ih a h => ?_)
  obtain ⟨a1, a2⟩ := a
  intro ha1 ha2
  show Go E M_Plan_soonestForm 0 0 4 [(0, .ref c0), (1, V a1), (2, V a2)] [] (WX X S) 0 0 K
  replace h : lb_Plan_soonestForm_4 c0 S go a1 a2 = some q := h
  unfold lb_Plan_soonestForm_4 at h
  refine g_iloadn (pc := 4) (i0 := 2) (j := 2) (dK D_Plan_soonestForm 4 rfl) rfl rfl ?_
  refine g_aloadn (pc := 5) (i0 := 0) (j := 0) (dK D_Plan_soonestForm 5 rfl) rfl rfl ?_
  refine vg_getI (pc := 6) (ci := 4) (f := 2) (dK D_Plan_soonestForm 6 rfl) q_309 hc0 (ltK rfl) (ltK rfl) rfl ?_
  refine vg_icmp_ge (pc := 9) (t := 73) (dK D_Plan_soonestForm 7 rfl) rfl ha2 (g_in _ _ _) (fun hc12 => ?_) (fun hc12 => ?_)
  · replace h := ifP h hc12
    obtain rfl := Option.some.inj h
    refine gL_weak (ls' := [(1, V a1)]) (sbc 1 rfl sbn) ?_
    exact hx ha1
  · replace h := ifN h hc12
    refine g_aloadn (pc := 12) (i0 := 0) (j := 0) (dK D_Plan_soonestForm 8 rfl) rfl rfl ?_
    refine vg_getO (pc := 13) (ci := 4) (f := 0) (dK D_Plan_soonestForm 9 rfl) q_301 hc0 (ltK rfl) (ltK rfl) rfl ?_
    refine vg_getO (pc := 16) (ci := 8) (f := 3) (dK D_Plan_soonestForm 10 rfl) q_246 (hw_4_0 hc0) (ltK rfl) (ltK rfl) rfl ?_
    refine vg_getA (pc := 19) (ci := 2) (f := 2) (dK D_Plan_soonestForm 11 rfl) q_221 (hw_8_3 (hw_4_0 hc0)) (ltK rfl) (ltK rfl) rfl ?_
    refine g_iloadn (pc := 22) (i0 := 2) (j := 2) (dK D_Plan_soonestForm 12 rfl) rfl rfl ?_
    refine gdE h (fun hi1 h => ?_)
    refine vg_iaload (pc := 23) (j := a2.toNat) (dK D_Plan_soonestForm 13 rfl) (hw_2_2 (hw_8_3 (hw_4_0 hc0))) rfl hi1 rfl ?_
    refine g_istoren (pc := 24) (i0 := 3) (ls2 := [(3, V (g S (tgt (tgt (tgt c0 0) 3) 2) a2.toNat)), (0, .ref c0), (1, V a1), (2, V a2)]) (dK D_Plan_soonestForm 14 rfl) rfl (ltK rfl) rfl ?_
    refine g_aloadn (pc := 25) (i0 := 0) (j := 1) (dK D_Plan_soonestForm 15 rfl) rfl rfl ?_
    refine vg_getO (pc := 26) (ci := 4) (f := 0) (dK D_Plan_soonestForm 16 rfl) q_301 hc0 (ltK rfl) (ltK rfl) rfl ?_
    refine vg_getO (pc := 29) (ci := 8) (f := 3) (dK D_Plan_soonestForm 17 rfl) q_246 (hw_4_0 hc0) (ltK rfl) (ltK rfl) rfl ?_
    refine vg_getA (pc := 32) (ci := 2) (f := 1) (dK D_Plan_soonestForm 18 rfl) q_217 (hw_8_3 (hw_4_0 hc0)) (ltK rfl) (ltK rfl) rfl ?_
    refine g_iloadn (pc := 35) (i0 := 2) (j := 3) (dK D_Plan_soonestForm 19 rfl) rfl rfl ?_
    refine vg_iaload (pc := 36) (j := a2.toNat) (dK D_Plan_soonestForm 20 rfl) (hw_2_1 (hw_8_3 (hw_4_0 hc0))) rfl hi1 rfl ?_
    refine vg_if_ne (pc := 37) (t := 67) (dK D_Plan_soonestForm 21 rfl) rfl (g_in _ _ _) (fun hc11 => ?_) (fun hc11 => ?_)
    · replace h := ifN h hc11
      refine nmE h (fun v2 e_v2 h => ?_)
      refine vg_iinc (pc := 67) (j := 3) (a := a2) (z := 1) (ls2 := [(2, V v2), (3, V (g S (tgt (tgt (tgt c0 0) 3) 2) a2.toNat)), (0, .ref c0), (1, V a1)]) (dK D_Plan_soonestForm 37 rfl) rfl e_v2 (ltK rfl) rfl ?_
      refine g_goto (pc := 70) (tgt := 4) (dK D_Plan_soonestForm 38 rfl) rfl ?_
      refine gL_weak (ls' := [(0, .ref c0), (1, V a1), (2, V v2)]) (sbc 2 rfl (sbc 3 rfl (sbc 0 rfl sbn))) ?_
      replace h := ih _ h
      exact h ha1 (Vn_in e_v2)
    · replace h := ifP h hc11
      refine g_iloadn (pc := 40) (i0 := 3) (j := 0) (dK D_Plan_soonestForm 22 rfl) rfl rfl ?_
      refine vg_if_eq (pc := 41) (t := 67) (dK D_Plan_soonestForm 23 rfl) rfl (g_in _ _ _) (fun hc10 => ?_) (fun hc10 => ?_)
      · replace h := ifP h hc10
        refine nmE h (fun v3 e_v3 h => ?_)
        refine vg_iinc (pc := 67) (j := 3) (a := a2) (z := 1) (ls2 := [(2, V v3), (3, V (g S (tgt (tgt (tgt c0 0) 3) 2) a2.toNat)), (0, .ref c0), (1, V a1)]) (dK D_Plan_soonestForm 37 rfl) rfl e_v3 (ltK rfl) rfl ?_
        refine g_goto (pc := 70) (tgt := 4) (dK D_Plan_soonestForm 38 rfl) rfl ?_
        refine gL_weak (ls' := [(0, .ref c0), (1, V a1), (2, V v3)]) (sbc 2 rfl (sbc 3 rfl (sbc 0 rfl sbn))) ?_
        replace h := ih _ h
        exact h ha1 (Vn_in e_v3)
      · replace h := ifN h hc10
        refine g_iloadn (pc := 44) (i0 := 1) (j := 2) (dK D_Plan_soonestForm 24 rfl) rfl rfl ?_
        refine vg_iconst (pc := 45) (dK D_Plan_soonestForm 25 rfl) ?_
        refine vg_icmp_eq (pc := 46) (t := 65) (dK D_Plan_soonestForm 26 rfl) rfl ha1 (inRk rfl) (fun hc9 => ?_) (fun hc9 => ?_)
        · replace h := ifP h hc9
          refine g_iloadn (pc := 65) (i0 := 2) (j := 3) (dK D_Plan_soonestForm 35 rfl) rfl rfl ?_
          refine g_istoren (pc := 66) (i0 := 1) (ls2 := [(1, V a2), (3, V (g S (tgt (tgt (tgt c0 0) 3) 2) a2.toNat)), (0, .ref c0), (2, V a2)]) (dK D_Plan_soonestForm 36 rfl) rfl (ltK rfl) rfl ?_
          refine nmE h (fun v4 e_v4 h => ?_)
          refine vg_iinc (pc := 67) (j := 3) (a := a2) (z := 1) (ls2 := [(2, V v4), (1, V a2), (3, V (g S (tgt (tgt (tgt c0 0) 3) 2) a2.toNat)), (0, .ref c0)]) (dK D_Plan_soonestForm 37 rfl) rfl e_v4 (ltK rfl) rfl ?_
          refine g_goto (pc := 70) (tgt := 4) (dK D_Plan_soonestForm 38 rfl) rfl ?_
          refine gL_weak (ls' := [(0, .ref c0), (1, V a2), (2, V v4)]) (sbc 3 rfl (sbc 1 rfl (sbc 0 rfl sbn))) ?_
          replace h := ih _ h
          exact h ha2 (Vn_in e_v4)
        · replace h := ifN h hc9
          refine g_iloadn (pc := 49) (i0 := 3) (j := 0) (dK D_Plan_soonestForm 27 rfl) rfl rfl ?_
          refine g_aloadn (pc := 50) (i0 := 0) (j := 1) (dK D_Plan_soonestForm 28 rfl) rfl rfl ?_
          refine vg_getO (pc := 51) (ci := 4) (f := 0) (dK D_Plan_soonestForm 29 rfl) q_301 hc0 (ltK rfl) (ltK rfl) rfl ?_
          refine vg_getO (pc := 54) (ci := 8) (f := 3) (dK D_Plan_soonestForm 30 rfl) q_246 (hw_4_0 hc0) (ltK rfl) (ltK rfl) rfl ?_
          refine vg_getA (pc := 57) (ci := 2) (f := 2) (dK D_Plan_soonestForm 31 rfl) q_221 (hw_8_3 (hw_4_0 hc0)) (ltK rfl) (ltK rfl) rfl ?_
          refine g_iloadn (pc := 60) (i0 := 1) (j := 2) (dK D_Plan_soonestForm 32 rfl) rfl rfl ?_
          refine gdE h (fun hi5 h => ?_)
          refine vg_iaload (pc := 61) (j := a1.toNat) (dK D_Plan_soonestForm 33 rfl) (hw_2_2 (hw_8_3 (hw_4_0 hc0))) rfl hi5 rfl ?_
          refine vg_icmp_ge (pc := 62) (t := 67) (dK D_Plan_soonestForm 34 rfl) rfl (g_in _ _ _) (g_in _ _ _) (fun hc8 => ?_) (fun hc8 => ?_)
          · replace h := ifP h hc8
            refine nmE h (fun v6 e_v6 h => ?_)
            refine vg_iinc (pc := 67) (j := 3) (a := a2) (z := 1) (ls2 := [(2, V v6), (3, V (g S (tgt (tgt (tgt c0 0) 3) 2) a2.toNat)), (0, .ref c0), (1, V a1)]) (dK D_Plan_soonestForm 37 rfl) rfl e_v6 (ltK rfl) rfl ?_
            refine g_goto (pc := 70) (tgt := 4) (dK D_Plan_soonestForm 38 rfl) rfl ?_
            refine gL_weak (ls' := [(0, .ref c0), (1, V a1), (2, V v6)]) (sbc 2 rfl (sbc 3 rfl (sbc 0 rfl sbn))) ?_
            replace h := ih _ h
            exact h ha1 (Vn_in e_v6)
          · replace h := ifN h hc8
            refine g_iloadn (pc := 65) (i0 := 2) (j := 3) (dK D_Plan_soonestForm 35 rfl) rfl rfl ?_
            refine g_istoren (pc := 66) (i0 := 1) (ls2 := [(1, V a2), (3, V (g S (tgt (tgt (tgt c0 0) 3) 2) a2.toNat)), (0, .ref c0), (2, V a2)]) (dK D_Plan_soonestForm 36 rfl) rfl (ltK rfl) rfl ?_
            refine nmE h (fun v7 e_v7 h => ?_)
            refine vg_iinc (pc := 67) (j := 3) (a := a2) (z := 1) (ls2 := [(2, V v7), (1, V a2), (3, V (g S (tgt (tgt (tgt c0 0) 3) 2) a2.toNat)), (0, .ref c0)]) (dK D_Plan_soonestForm 37 rfl) rfl e_v7 (ltK rfl) rfl ?_
            refine g_goto (pc := 70) (tgt := 4) (dK D_Plan_soonestForm 38 rfl) rfl ?_
            refine gL_weak (ls' := [(0, .ref c0), (1, V a2), (2, V v7)]) (sbc 3 rfl (sbc 1 rfl (sbc 0 rfl sbn))) ?_
            replace h := ih _ h
            exact h ha2 (Vn_in e_v7)
def fn_Plan_soonestForm (c0 : Nat) (S : St) : Option (Int) := bnO (lo_Plan_soonestForm_4 c0 S FU ((-1), 0)) fun p13 => some p13
theorem tf_Plan_soonestForm {E : EV} {X : XT} {c0 : Nat} (hc0 : HC X 4 c0) {S : St} {q : Int} (h : fn_Plan_soonestForm c0 S = some q) : Ev E M_Plan_soonestForm [.ref c0] (WX X S) 0 0 (KI X q S) := by
  refine Ev.of pn_Plan rfl (leK rfl) ?_
  show Go E M_Plan_soonestForm 0 0 0 [(0, .ref c0)] [] (WX X S) 0 0 (KI X q S)
  unfold fn_Plan_soonestForm at h
  refine vg_iconst (pc := 0) (dK D_Plan_soonestForm 0 rfl) ?_
  refine g_istoren (pc := 1) (i0 := 1) (ls2 := [(1, V (-1)), (0, .ref c0)]) (dK D_Plan_soonestForm 1 rfl) rfl (ltK rfl) rfl ?_
  refine vg_iconst (pc := 2) (dK D_Plan_soonestForm 2 rfl) ?_
  refine g_istoren (pc := 3) (i0 := 2) (ls2 := [(2, V 0), (1, V (-1)), (0, .ref c0)]) (dK D_Plan_soonestForm 3 rfl) rfl (ltK rfl) rfl ?_
  refine bnE h (fun p13 e_p13 h => ?_)
  refine gL_weak (ls' := [(0, .ref c0), (1, V (-1)), (2, V 0)]) (sbc 2 rfl (sbc 1 rfl (sbc 0 rfl sbn))) ?_
  refine tl_Plan_soonestForm_4 hc0 (fun hx1_p13 => ?_) FU ((-1), 0) e_p13 (inRk rfl) (inRk rfl)
  refine g_iloadn (pc := 73) (i0 := 1) (j := 0) (dK D_Plan_soonestForm 39 rfl) rfl rfl ?_
  exact vg_iretI (pc := 74) (r := p13) (dK D_Plan_soonestForm 40 rfl) rfl (leK rfl) (leK rfl) (fun _ => rfl) (by obtain rfl := Option.some.inj h; exact ⟨rfl, hx1_p13, rfl⟩)
def fn_FP_nextClosing (c0 : Nat) (S : St) : Option (Int) := bnO (fn_Plan_soonestForm (tgt c0 3) S) fun p1 => some p1
theorem tf_FP_nextClosing {E : EV} {X : XT} {c0 : Nat} (hc0 : HC X 10 c0) {S : St} {q : Int} (h : fn_FP_nextClosing c0 S = some q) : Ev E M_FP_nextClosing [.ref c0] (WX X S) 0 0 (KI X q S) := by
  refine Ev.of pn_FP rfl (leK rfl) ?_
  show Go E M_FP_nextClosing 0 0 0 [(0, .ref c0)] [] (WX X S) 0 0 (KI X q S)
  unfold fn_FP_nextClosing at h
  refine g_aloadn (pc := 0) (i0 := 0) (j := 0) (dK D_FP_nextClosing 0 rfl) rfl rfl ?_
  refine vg_getO (pc := 1) (ci := 10) (f := 3) (dK D_FP_nextClosing 1 rfl) q_436 hc0 (ltK rfl) (ltK rfl) rfl ?_
  refine bnE h (fun p1 e_p1 h => ?_)
  refine vg_cV (pc := 4) (As := []) (rest := []) (mc' := 0) (ms' := 0) (dK D_FP_nextClosing 2 rfl) K_FP_277 (fitK rfl) (ltK rfl) (hw_10_3 hc0) rfl (leK rfl) (leK rfl) (leK rfl) (tf_Plan_soonestForm (hw_10_3 hc0) e_p1) (kcI (fun h_p1 => ?_))
  exact vg_iretI (pc := 7) (r := p1) (dK D_FP_nextClosing 3 rfl) rfl (leK rfl) (leK rfl) (fun _ => rfl) (by obtain rfl := Option.some.inj h; exact ⟨rfl, h_p1, rfl⟩)
def lb_FP_endangered_27 (c0 : Nat) (c1 : Nat) (c2 : Nat) (S : St) (go : Int × Int → Option (Int)) (a3 : Int) (a4 : Int) : Option (Int) := if (g S c1 7) ≤ a4 then (some a3) else (if 0 ≤ a4 ∧ a4 < 40 then (bnO (fn_Plan_formAt (tgt c0 3) (g S (tgt c1 6) a4.toNat) S) fun p2 => if p2 = (-1) then (nm (wr (a4 + 1)) fun v3 => go (a3, v3)) else (if 0 ≤ p2 ∧ p2 < 8 then (if (g S (tgt c2 1) p2.toNat) = 0 then (if (g S (tgt c2 2) p2.toNat) = 0 then (nm (wr (a4 + 1)) fun v6 => go (a3, v6)) else (if (g S (tgt c1 5) a4.toNat) ≤ (g S (tgt c2 2) p2.toNat) then (nm (wr (a4 + 1)) fun v7 => go (a3, v7)) else (nm (wr (a3 + (g S (tgt c1 4) a4.toNat))) fun v8 => nm (wr (a4 + 1)) fun v9 => go (v8, v9)))) else (nm (wr (a4 + 1)) fun v5 => go (a3, v5))) else none)) else none)
def lo_FP_endangered_27 (c0 : Nat) (c1 : Nat) (c2 : Nat) (S : St) : Nat → Int × Int → Option (Int) := lp fun go p => lb_FP_endangered_27 c0 c1 c2 S go p.1 p.2
theorem tl_FP_endangered_27 {E : EV} {X : XT} {c0 : Nat} (hc0 : HC X 10 c0) {c1 : Nat} (hc1 : HC X 0 c1) {c2 : Nat} (hc2 : HC X 2 c2) {S : St} {K : RK → PS → Prop} {q : Int} (hx : inR q → Go E M_FP_endangered 0 0 111 [(3, V q)] [] (WX X S) 0 0 K) : ∀ n a, lo_FP_endangered_27 c0 c1 c2 S n a = some q → inR a.1 → inR a.2 → Go E M_FP_endangered 0 0 27 [(0, .ref c0), (1, .ref c1), (2, .ref c2), (3, V a.1), (4, V a.2)] [] (WX X S) 0 0 K := by
  refine lp_ind (P := fun a : Int × Int => inR a.1 → inR a.2 → Go E M_FP_endangered 0 0 27 [(0, .ref c0), (1, .ref c1), (2, .ref c2), (3, V a.1), (4, V a.2)] [] (WX X S) 0 0 K) (fun go ih a h => ?_)
  obtain ⟨a3, a4⟩ := a
  intro ha3 ha4
  show Go E M_FP_endangered 0 0 27 [(0, .ref c0), (1, .ref c1), (2, .ref c2), (3, V a3), (4, V a4)] [] (WX X S) 0 0 K
  replace h : lb_FP_endangered_27 c0 c1 c2 S go a3 a4 = some q := h
  unfold lb_FP_endangered_27 at h
  refine g_iload (pc := 27) (j := 4) (dK D_FP_endangered_0 14 rfl) rfl ?_
  refine g_aloadn (pc := 29) (i0 := 1) (j := 1) (dK D_FP_endangered_0 15 rfl) rfl rfl ?_
  refine vg_getI (pc := 30) (ci := 0) (f := 7) (dK D_FP_endangered_0 16 rfl) q_120 hc1 (ltK rfl) (ltK rfl) rfl ?_
  refine vg_icmp_ge (pc := 33) (t := 111) (dK D_FP_endangered_0 17 rfl) rfl ha4 (g_in _ _ _) (fun hc14 => ?_) (fun hc14 => ?_)
  · replace h := ifP h hc14
    obtain rfl := Option.some.inj h
    refine gL_weak (ls' := [(3, V a3)]) (sbc 3 rfl sbn) ?_
    exact hx ha3
  · replace h := ifN h hc14
    refine g_aloadn (pc := 36) (i0 := 0) (j := 0) (dK D_FP_endangered_0 18 rfl) rfl rfl ?_
    refine vg_getO (pc := 37) (ci := 10) (f := 3) (dK D_FP_endangered_0 19 rfl) q_436 hc0 (ltK rfl) (ltK rfl) rfl ?_
    refine g_aloadn (pc := 40) (i0 := 1) (j := 1) (dK D_FP_endangered_0 20 rfl) rfl rfl ?_
    refine vg_getA (pc := 41) (ci := 0) (f := 6) (dK D_FP_endangered_0 21 rfl) q_114 hc1 (ltK rfl) (ltK rfl) rfl ?_
    refine g_iload (pc := 44) (j := 4) (dK D_FP_endangered_0 22 rfl) rfl ?_
    refine gdE h (fun hi1 h => ?_)
    refine vg_iaload (pc := 46) (j := a4.toNat) (dK D_FP_endangered_0 23 rfl) (hw_0_6 hc1) rfl hi1 rfl ?_
    refine bnE h (fun p2 e_p2 h => ?_)
    refine vg_cV (pc := 47) (As := [V (g S (tgt c1 6) a4.toNat)]) (rest := []) (mc' := 0) (ms' := 0) (dK D_FP_endangered_0 24 rfl) K_FP_337 (fitK rfl) (ltK rfl) (hw_10_3 hc0) rfl (leK rfl) (leK rfl) (leK rfl) (tf_Plan_formAt (hw_10_3 hc0) (g_in _ _ _) e_p2) (kcI (fun h_p2 => ?_))
    refine g_istore (pc := 50) (ls2 := [(5, V p2), (0, .ref c0), (1, .ref c1), (2, .ref c2), (3, V a3), (4, V a4)]) (dK D_FP_endangered_0 25 rfl) (ltK rfl) rfl ?_
    refine g_iload (pc := 52) (j := 0) (dK D_FP_endangered_0 26 rfl) rfl ?_
    refine vg_iconst (pc := 54) (dK D_FP_endangered_0 27 rfl) ?_
    refine vg_icmp_eq (pc := 55) (t := 105) (dK D_FP_endangered_0 28 rfl) rfl h_p2 (inRk rfl) (fun hc13 => ?_) (fun hc13 => ?_)
    · replace h := ifP h hc13
      refine nmE h (fun v3 e_v3 h => ?_)
      refine vg_iinc (pc := 105) (j := 5) (a := a4) (z := 1) (ls2 := [(4, V v3), (5, V p2), (0, .ref c0), (1, .ref c1), (2, .ref c2), (3, V a3)]) (dK D_FP_endangered_1 5 rfl) rfl e_v3 (ltK rfl) rfl ?_
      refine g_goto (pc := 108) (tgt := 27) (dK D_FP_endangered_1 6 rfl) rfl ?_
      refine gL_weak (ls' := [(0, .ref c0), (1, .ref c1), (2, .ref c2), (3, V a3), (4, V v3)]) (sbc 2 rfl (sbc 3 rfl (sbc 4 rfl (sbc 5 rfl (sbc 0 rfl sbn))))) ?_
      replace h := ih _ h
      exact h ha3 (Vn_in e_v3)
    · replace h := ifN h hc13
      refine g_aloadn (pc := 58) (i0 := 2) (j := 3) (dK D_FP_endangered_0 29 rfl) rfl rfl ?_
      refine vg_getA (pc := 59) (ci := 2) (f := 1) (dK D_FP_endangered_0 30 rfl) q_218 hc2 (ltK rfl) (ltK rfl) rfl ?_
      refine g_iload (pc := 62) (j := 0) (dK D_FP_endangered_0 31 rfl) rfl ?_
      refine gdE h (fun hi4 h => ?_)
      refine vg_iaload (pc := 64) (j := p2.toNat) (dK D_FP_endangered_0 32 rfl) (hw_2_1 hc2) rfl hi4 rfl ?_
      refine vg_if_ne (pc := 65) (t := 105) (dK D_FP_endangered_0 33 rfl) rfl (g_in _ _ _) (fun hc12 => ?_) (fun hc12 => ?_)
      · replace h := ifN h hc12
        refine nmE h (fun v5 e_v5 h => ?_)
        refine vg_iinc (pc := 105) (j := 5) (a := a4) (z := 1) (ls2 := [(4, V v5), (5, V p2), (0, .ref c0), (1, .ref c1), (2, .ref c2), (3, V a3)]) (dK D_FP_endangered_1 5 rfl) rfl e_v5 (ltK rfl) rfl ?_
        refine g_goto (pc := 108) (tgt := 27) (dK D_FP_endangered_1 6 rfl) rfl ?_
        refine gL_weak (ls' := [(0, .ref c0), (1, .ref c1), (2, .ref c2), (3, V a3), (4, V v5)]) (sbc 2 rfl (sbc 3 rfl (sbc 4 rfl (sbc 5 rfl (sbc 0 rfl sbn))))) ?_
        replace h := ih _ h
        exact h ha3 (Vn_in e_v5)
      · replace h := ifP h hc12
        refine g_aloadn (pc := 68) (i0 := 2) (j := 3) (dK D_FP_endangered_0 34 rfl) rfl rfl ?_
        refine vg_getA (pc := 69) (ci := 2) (f := 2) (dK D_FP_endangered_0 35 rfl) q_223 hc2 (ltK rfl) (ltK rfl) rfl ?_
        refine g_iload (pc := 72) (j := 0) (dK D_FP_endangered_0 36 rfl) rfl ?_
        refine vg_iaload (pc := 74) (j := p2.toNat) (dK D_FP_endangered_0 37 rfl) (hw_2_2 hc2) rfl hi4 rfl ?_
        refine vg_if_eq (pc := 75) (t := 105) (dK D_FP_endangered_0 38 rfl) rfl (g_in _ _ _) (fun hc11 => ?_) (fun hc11 => ?_)
        · replace h := ifP h hc11
          refine nmE h (fun v6 e_v6 h => ?_)
          refine vg_iinc (pc := 105) (j := 5) (a := a4) (z := 1) (ls2 := [(4, V v6), (5, V p2), (0, .ref c0), (1, .ref c1), (2, .ref c2), (3, V a3)]) (dK D_FP_endangered_1 5 rfl) rfl e_v6 (ltK rfl) rfl ?_
          refine g_goto (pc := 108) (tgt := 27) (dK D_FP_endangered_1 6 rfl) rfl ?_
          refine gL_weak (ls' := [(0, .ref c0), (1, .ref c1), (2, .ref c2), (3, V a3), (4, V v6)]) (sbc 2 rfl (sbc 3 rfl (sbc 4 rfl (sbc 5 rfl (sbc 0 rfl sbn))))) ?_
          replace h := ih _ h
          exact h ha3 (Vn_in e_v6)
        · replace h := ifN h hc11
          refine g_aloadn (pc := 78) (i0 := 2) (j := 3) (dK D_FP_endangered_0 39 rfl) rfl rfl ?_
          refine vg_getA (pc := 79) (ci := 2) (f := 2) (dK D_FP_endangered_0 40 rfl) q_223 hc2 (ltK rfl) (ltK rfl) rfl ?_
          refine g_iload (pc := 82) (j := 0) (dK D_FP_endangered_0 41 rfl) rfl ?_
          refine vg_iaload (pc := 84) (j := p2.toNat) (dK D_FP_endangered_0 42 rfl) (hw_2_2 hc2) rfl hi4 rfl ?_
          refine g_aloadn (pc := 85) (i0 := 1) (j := 2) (dK D_FP_endangered_0 43 rfl) rfl rfl ?_
          refine vg_getA (pc := 86) (ci := 0) (f := 5) (dK D_FP_endangered_0 44 rfl) q_108 hc1 (ltK rfl) (ltK rfl) rfl ?_
          refine g_iload (pc := 89) (j := 5) (dK D_FP_endangered_0 45 rfl) rfl ?_
          refine vg_iaload (pc := 91) (j := a4.toNat) (dK D_FP_endangered_0 46 rfl) (hw_0_5 hc1) rfl hi1 rfl ?_
          refine vg_icmp_ge (pc := 92) (t := 105) (dK D_FP_endangered_0 47 rfl) rfl (g_in _ _ _) (g_in _ _ _) (fun hc10 => ?_) (fun hc10 => ?_)
          · replace h := ifP h hc10
            refine nmE h (fun v7 e_v7 h => ?_)
            refine vg_iinc (pc := 105) (j := 5) (a := a4) (z := 1) (ls2 := [(4, V v7), (5, V p2), (0, .ref c0), (1, .ref c1), (2, .ref c2), (3, V a3)]) (dK D_FP_endangered_1 5 rfl) rfl e_v7 (ltK rfl) rfl ?_
            refine g_goto (pc := 108) (tgt := 27) (dK D_FP_endangered_1 6 rfl) rfl ?_
            refine gL_weak (ls' := [(0, .ref c0), (1, .ref c1), (2, .ref c2), (3, V a3), (4, V v7)]) (sbc 2 rfl (sbc 3 rfl (sbc 4 rfl (sbc 5 rfl (sbc 0 rfl sbn))))) ?_
            replace h := ih _ h
            exact h ha3 (Vn_in e_v7)
          · replace h := ifN h hc10
            refine g_iloadn (pc := 95) (i0 := 3) (j := 4) (dK D_FP_endangered_0 48 rfl) rfl rfl ?_
            refine g_aloadn (pc := 96) (i0 := 1) (j := 2) (dK D_FP_endangered_0 49 rfl) rfl rfl ?_
            refine vg_getA (pc := 97) (ci := 0) (f := 4) (dK D_FP_endangered_1 0 rfl) q_105 hc1 (ltK rfl) (ltK rfl) rfl ?_
            refine g_iload (pc := 100) (j := 5) (dK D_FP_endangered_1 1 rfl) rfl ?_
            refine vg_iaload (pc := 102) (j := a4.toNat) (dK D_FP_endangered_1 2 rfl) (hw_0_4 hc1) rfl hi1 rfl ?_
            refine vg_iadd (pc := 103) (dK D_FP_endangered_1 3 rfl) ?_
            refine nmE h (fun v8 e_v8 h => ?_)
            refine gtop e_v8 ?_
            refine g_istoren (pc := 104) (i0 := 3) (ls2 := [(3, V v8), (5, V p2), (0, .ref c0), (1, .ref c1), (2, .ref c2), (4, V a4)]) (dK D_FP_endangered_1 4 rfl) rfl (ltK rfl) rfl ?_
            refine nmE h (fun v9 e_v9 h => ?_)
            refine vg_iinc (pc := 105) (j := 5) (a := a4) (z := 1) (ls2 := [(4, V v9), (3, V v8), (5, V p2), (0, .ref c0), (1, .ref c1), (2, .ref c2)]) (dK D_FP_endangered_1 5 rfl) rfl e_v9 (ltK rfl) rfl ?_
            refine g_goto (pc := 108) (tgt := 27) (dK D_FP_endangered_1 6 rfl) rfl ?_
            refine gL_weak (ls' := [(0, .ref c0), (1, .ref c1), (2, .ref c2), (3, V v8), (4, V v9)]) (sbc 3 rfl (sbc 4 rfl (sbc 5 rfl (sbc 1 rfl (sbc 0 rfl sbn))))) ?_
            replace h := ih _ h
            exact h (Vn_in e_v8) (Vn_in e_v9)
def fn_FP_endangered (c0 : Nat) (S : St) : Option (Int) := bnO (lo_FP_endangered_27 c0 (tgt (tgt (tgt c0 3) 0) 0) (tgt (tgt (tgt c0 3) 0) 3) S FU (0, 0)) fun p15 => some p15
theorem tf_FP_endangered {E : EV} {X : XT} {c0 : Nat} (hc0 : HC X 10 c0) {S : St} {q : Int} (h : fn_FP_endangered c0 S = some q) : Ev E M_FP_endangered [.ref c0] (WX X S) 0 0 (KI X q S) := by
  refine Ev.of pn_FP rfl (leK rfl) ?_
  show Go E M_FP_endangered 0 0 0 [(0, .ref c0)] [] (WX X S) 0 0 (KI X q S)
  unfold fn_FP_endangered at h
  refine g_aloadn (pc := 0) (i0 := 0) (j := 0) (dK D_FP_endangered_0 0 rfl) rfl rfl ?_
  refine vg_getO (pc := 1) (ci := 10) (f := 3) (dK D_FP_endangered_0 1 rfl) q_436 hc0 (ltK rfl) (ltK rfl) rfl ?_
  refine vg_getO (pc := 4) (ci := 4) (f := 0) (dK D_FP_endangered_0 2 rfl) q_303 (hw_10_3 hc0) (ltK rfl) (ltK rfl) rfl ?_
  refine vg_getO (pc := 7) (ci := 8) (f := 0) (dK D_FP_endangered_0 3 rfl) q_235 (hw_4_0 (hw_10_3 hc0)) (ltK rfl) (ltK rfl) rfl ?_
  refine g_astoren (pc := 10) (i0 := 1) (ls2 := [(1, .ref (tgt (tgt (tgt c0 3) 0) 0)), (0, .ref c0)]) (dK D_FP_endangered_0 4 rfl) rfl (ltK rfl) rfl ?_
  refine g_aloadn (pc := 11) (i0 := 0) (j := 1) (dK D_FP_endangered_0 5 rfl) rfl rfl ?_
  refine vg_getO (pc := 12) (ci := 10) (f := 3) (dK D_FP_endangered_0 6 rfl) q_436 hc0 (ltK rfl) (ltK rfl) rfl ?_
  refine vg_getO (pc := 15) (ci := 4) (f := 0) (dK D_FP_endangered_0 7 rfl) q_303 (hw_10_3 hc0) (ltK rfl) (ltK rfl) rfl ?_
  refine vg_getO (pc := 18) (ci := 8) (f := 3) (dK D_FP_endangered_0 8 rfl) q_248 (hw_4_0 (hw_10_3 hc0)) (ltK rfl) (ltK rfl) rfl ?_
  refine g_astoren (pc := 21) (i0 := 2) (ls2 := [(2, .ref (tgt (tgt (tgt c0 3) 0) 3)), (1, .ref (tgt (tgt (tgt c0 3) 0) 0)), (0, .ref c0)]) (dK D_FP_endangered_0 9 rfl) rfl (ltK rfl) rfl ?_
  refine vg_iconst (pc := 22) (dK D_FP_endangered_0 10 rfl) ?_
  refine g_istoren (pc := 23) (i0 := 3) (ls2 := [(3, V 0), (2, .ref (tgt (tgt (tgt c0 3) 0) 3)), (1, .ref (tgt (tgt (tgt c0 3) 0) 0)), (0, .ref c0)]) (dK D_FP_endangered_0 11 rfl) rfl (ltK rfl) rfl ?_
  refine vg_iconst (pc := 24) (dK D_FP_endangered_0 12 rfl) ?_
  refine g_istore (pc := 25) (ls2 := [(4, V 0), (3, V 0), (2, .ref (tgt (tgt (tgt c0 3) 0) 3)), (1, .ref (tgt (tgt (tgt c0 3) 0) 0)), (0, .ref c0)]) (dK D_FP_endangered_0 13 rfl) (ltK rfl) rfl ?_
  refine bnE h (fun p15 e_p15 h => ?_)
  refine gL_weak (ls' := [(0, .ref c0), (1, .ref (tgt (tgt (tgt c0 3) 0) 0)), (2, .ref (tgt (tgt (tgt c0 3) 0) 3)), (3, V 0), (4, V 0)]) (sbc 4 rfl (sbc 3 rfl (sbc 2 rfl (sbc 1 rfl (sbc 0 rfl sbn))))) ?_
  refine tl_FP_endangered_27 hc0 (hw_8_0 (hw_4_0 (hw_10_3 hc0))) (hw_8_3 (hw_4_0 (hw_10_3 hc0))) (fun hx3_p15 => ?_) FU (0, 0) e_p15 (inRk rfl) (inRk rfl)
  refine g_iloadn (pc := 111) (i0 := 3) (j := 0) (dK D_FP_endangered_1 7 rfl) rfl rfl ?_
  exact vg_iretI (pc := 112) (r := p15) (dK D_FP_endangered_1 8 rfl) rfl (leK rfl) (leK rfl) (fun _ => rfl) (by obtain rfl := Option.some.inj h; exact ⟨rfl, hx3_p15, rfl⟩)
def fn_FP_reason (c0 : Nat) (a1 : Int) (a2 : Int) (S : St) : Option (Nat × Int) := bnO (fn_FP_needAd c0 a1 S) fun p1 => if p1 = 0 then (bnO (fn_Plan_adReason (tgt c0 3) a1 a2 S) fun p2 => some (0, p2)) else (some (p1, 0))
theorem tf_FP_reason {E : EV} {X : XT} (hfl : X.2.2.2 = false) {c0 : Nat} (hc0 : HC X 10 c0) {a1 : Int} (ha1 : inR a1) {a2 : Int} (ha2 : inR a2) {S : St} {q : Nat × Int} (h : fn_FP_reason c0 a1 a2 S = some q) : Ev E M_FP_reason [.ref c0, V a1, V a2] (WX X S) 1 6 (KT X q.1 S (KI X q.2 S)) := by
  refine Ev.of pn_FP rfl (leK rfl) ?_
  show Go E M_FP_reason 1 6 0 [(0, .ref c0), (1, V a1), (2, V a2)] [] (WX X S) 0 0 (KT X q.1 S (KI X q.2 S))
  unfold fn_FP_reason at h
  refine g_aloadn (pc := 0) (i0 := 0) (j := 0) (dK D_FP_reason 0 rfl) rfl rfl ?_
  refine g_iloadn (pc := 1) (i0 := 1) (j := 1) (dK D_FP_reason 1 rfl) rfl rfl ?_
  refine bnE h (fun p1 e_p1 h => ?_)
  refine vg_cV (pc := 2) (As := [V a1]) (rest := []) (mc' := 1) (ms' := 6) (dK D_FP_reason 2 rfl) K_FP_162 (fitK rfl) (ltK rfl) hc0 rfl (leK rfl) (leK rfl) (leK rfl) (tf_FP_needAd hfl hc0 ha1 e_p1) (kcT hfl (fun he3 => kcU ?_) (fun he3 => ⟨rfl, ?_⟩))
  · replace h := ifP h he3
    refine g_aloadn (pc := 5) (i0 := 0) (j := 0) (dK D_FP_reason 3 rfl) rfl rfl ?_
    refine vg_getO (pc := 6) (ci := 10) (f := 3) (dK D_FP_reason 4 rfl) q_436 hc0 (ltK rfl) (ltK rfl) rfl ?_
    refine g_iloadn (pc := 9) (i0 := 1) (j := 1) (dK D_FP_reason 5 rfl) rfl rfl ?_
    refine g_iloadn (pc := 10) (i0 := 2) (j := 2) (dK D_FP_reason 6 rfl) rfl rfl ?_
    refine bnE h (fun p2 e_p2 h => ?_)
    refine vg_cV (pc := 11) (As := [V a1, V a2]) (rest := []) (mc' := 0) (ms' := 0) (dK D_FP_reason 7 rfl) K_FP_244 (fitK rfl) (ltK rfl) (hw_10_3 hc0) rfl (leK rfl) (leK rfl) (leK rfl) (tf_Plan_adReason (hw_10_3 hc0) ha1 ha2 e_p2) (kcI (fun h_p2 => ?_))
    exact vg_iretI (pc := 14) (r := p2) (dK D_FP_reason 8 rfl) rfl (leK rfl) (leK rfl) (xf hfl) (by obtain rfl := Option.some.inj h; exact KT_ok ⟨rfl, h_p2, rfl⟩)
  · replace h := ifN h he3
    obtain rfl := Option.some.inj h
    exact KT_thr he3
def fn_FP_choices (c0 : Nat) (a1 : Int) (S : St) : Option (Nat × Int) := bnO (fn_FP_needAd c0 a1 S) fun p1 => if p1 = 0 then (bnO (fn_Searches_pagesFor (tgt c0 2) a1 S) fun p2 => some (0, p2)) else (some (p1, 0))
theorem tf_FP_choices {E : EV} {X : XT} (hfl : X.2.2.2 = false) {c0 : Nat} (hc0 : HC X 10 c0) {a1 : Int} (ha1 : inR a1) {S : St} {q : Nat × Int} (h : fn_FP_choices c0 a1 S = some q) : Ev E M_FP_choices [.ref c0, V a1] (WX X S) 1 6 (KT X q.1 S (KI X q.2 S)) := by
  refine Ev.of pn_FP rfl (leK rfl) ?_
  show Go E M_FP_choices 1 6 0 [(0, .ref c0), (1, V a1)] [] (WX X S) 0 0 (KT X q.1 S (KI X q.2 S))
  unfold fn_FP_choices at h
  refine g_aloadn (pc := 0) (i0 := 0) (j := 0) (dK D_FP_choices 0 rfl) rfl rfl ?_
  refine g_iloadn (pc := 1) (i0 := 1) (j := 1) (dK D_FP_choices 1 rfl) rfl rfl ?_
  refine bnE h (fun p1 e_p1 h => ?_)
  refine vg_cV (pc := 2) (As := [V a1]) (rest := []) (mc' := 1) (ms' := 6) (dK D_FP_choices 2 rfl) K_FP_162 (fitK rfl) (ltK rfl) hc0 rfl (leK rfl) (leK rfl) (leK rfl) (tf_FP_needAd hfl hc0 ha1 e_p1) (kcT hfl (fun he3 => kcU ?_) (fun he3 => ⟨rfl, ?_⟩))
  · replace h := ifP h he3
    refine g_aloadn (pc := 5) (i0 := 0) (j := 0) (dK D_FP_choices 3 rfl) rfl rfl ?_
    refine vg_getO (pc := 6) (ci := 10) (f := 2) (dK D_FP_choices 4 rfl) q_435 hc0 (ltK rfl) (ltK rfl) rfl ?_
    refine g_iloadn (pc := 9) (i0 := 1) (j := 1) (dK D_FP_choices 5 rfl) rfl rfl ?_
    refine bnE h (fun p2 e_p2 h => ?_)
    refine vg_cV (pc := 10) (As := [V a1]) (rest := []) (mc' := 0) (ms' := 0) (dK D_FP_choices 6 rfl) K_FP_286 (fitK rfl) (ltK rfl) (hw_10_2 hc0) rfl (leK rfl) (leK rfl) (leK rfl) (tf_Searches_pagesFor (hw_10_2 hc0) ha1 e_p2) (kcI (fun h_p2 => ?_))
    exact vg_iretI (pc := 13) (r := p2) (dK D_FP_choices 7 rfl) rfl (leK rfl) (leK rfl) (xf hfl) (by obtain rfl := Option.some.inj h; exact KT_ok ⟨rfl, h_p2, rfl⟩)
  · replace h := ifN h he3
    obtain rfl := Option.some.inj h
    exact KT_thr he3
def fn_FP_storyReason (c0 : Nat) (a1 : Int) (a2 : Int) (S : St) : Option (Nat × Int) := bnO (fn_FP_needStory c0 a1 S) fun p1 => if p1 = 0 then (bnO (fn_Plan_layReason (tgt c0 3) a1 a2 S) fun p2 => some (0, p2)) else (some (p1, 0))
theorem tf_FP_storyReason {E : EV} {X : XT} (hfl : X.2.2.2 = false) {c0 : Nat} (hc0 : HC X 10 c0) {a1 : Int} (ha1 : inR a1) {a2 : Int} (ha2 : inR a2) {S : St} {q : Nat × Int} (h : fn_FP_storyReason c0 a1 a2 S = some q) : Ev E M_FP_storyReason [.ref c0, V a1, V a2] (WX X S) 1 6 (KT X q.1 S (KI X q.2 S)) := by
  refine Ev.of pn_FP rfl (leK rfl) ?_
  show Go E M_FP_storyReason 1 6 0 [(0, .ref c0), (1, V a1), (2, V a2)] [] (WX X S) 0 0 (KT X q.1 S (KI X q.2 S))
  unfold fn_FP_storyReason at h
  refine g_aloadn (pc := 0) (i0 := 0) (j := 0) (dK D_FP_storyReason 0 rfl) rfl rfl ?_
  refine g_iloadn (pc := 1) (i0 := 1) (j := 1) (dK D_FP_storyReason 1 rfl) rfl rfl ?_
  refine bnE h (fun p1 e_p1 h => ?_)
  refine vg_cV (pc := 2) (As := [V a1]) (rest := []) (mc' := 1) (ms' := 6) (dK D_FP_storyReason 2 rfl) K_FP_192 (fitK rfl) (ltK rfl) hc0 rfl (leK rfl) (leK rfl) (leK rfl) (tf_FP_needStory hfl hc0 ha1 e_p1) (kcT hfl (fun he3 => kcU ?_) (fun he3 => ⟨rfl, ?_⟩))
  · replace h := ifP h he3
    refine g_aloadn (pc := 5) (i0 := 0) (j := 0) (dK D_FP_storyReason 3 rfl) rfl rfl ?_
    refine vg_getO (pc := 6) (ci := 10) (f := 3) (dK D_FP_storyReason 4 rfl) q_436 hc0 (ltK rfl) (ltK rfl) rfl ?_
    refine g_iloadn (pc := 9) (i0 := 1) (j := 1) (dK D_FP_storyReason 5 rfl) rfl rfl ?_
    refine g_iloadn (pc := 10) (i0 := 2) (j := 2) (dK D_FP_storyReason 6 rfl) rfl rfl ?_
    refine bnE h (fun p2 e_p2 h => ?_)
    refine vg_cV (pc := 11) (As := [V a1, V a2]) (rest := []) (mc' := 0) (ms' := 0) (dK D_FP_storyReason 7 rfl) K_FP_248 (fitK rfl) (ltK rfl) (hw_10_3 hc0) rfl (leK rfl) (leK rfl) (leK rfl) (tf_Plan_layReason (hw_10_3 hc0) ha1 ha2 e_p2) (kcI (fun h_p2 => ?_))
    exact vg_iretI (pc := 14) (r := p2) (dK D_FP_storyReason 8 rfl) rfl (leK rfl) (leK rfl) (xf hfl) (by obtain rfl := Option.some.inj h; exact KT_ok ⟨rfl, h_p2, rfl⟩)
  · replace h := ifN h he3
    obtain rfl := Option.some.inj h
    exact KT_thr he3
def fn_Plan_isUnfit (c0 : Nat) (a1 : Int) (a2 : Int) (S : St) : Option (Bool) := bnO (fn_Plan_isPrinted c0 a2 S) fun p1 => if p1 = true then (some true) else (if 0 ≤ a1 ∧ a1 < 40 then (bnO (fn_Plan_lacksColor c0 (g S (tgt (tgt (tgt c0 0) 0) 2) a1.toNat) a2 S) fun p4 => if p4 = true then (some true) else (bnO (fn_Plan_isWrongSide (g S (tgt (tgt (tgt c0 0) 0) 3) a1.toNat) a2 S) fun p6 => if p6 = true then (some true) else (some false))) else none)
theorem tf_Plan_isUnfit {E : EV} {X : XT} {c0 : Nat} (hc0 : HC X 4 c0) {a1 : Int} (ha1 : inR a1) {a2 : Int} (ha2 : inR a2) {S : St} {q : Bool} (h : fn_Plan_isUnfit c0 a1 a2 S = some q) : Ev E M_Plan_isUnfit [.ref c0, V a1, V a2] (WX X S) 0 0 (KB X q S) := by
  refine Ev.of pn_Plan rfl (leK rfl) ?_
  show Go E M_Plan_isUnfit 0 0 0 [(0, .ref c0), (1, V a1), (2, V a2)] [] (WX X S) 0 0 (KB X q S)
  unfold fn_Plan_isUnfit at h
  refine g_aloadn (pc := 0) (i0 := 0) (j := 0) (dK D_Plan_isUnfit 0 rfl) rfl rfl ?_
  refine g_iloadn (pc := 1) (i0 := 2) (j := 2) (dK D_Plan_isUnfit 1 rfl) rfl rfl ?_
  refine bnE h (fun p1 e_p1 h => ?_)
  refine vg_cV (pc := 2) (As := [V a2]) (rest := []) (mc' := 0) (ms' := 0) (dK D_Plan_isUnfit 2 rfl) K_Plan_135 (fitK rfl) (ltK rfl) hc0 rfl (leK rfl) (leK rfl) (leK rfl) (tf_Plan_isPrinted hc0 ha2 e_p1) (kcB ?_)
  refine vg_ifB_ne (pc := 5) (b := p1) (t := 47) (dK D_Plan_isUnfit 3 rfl) rfl (fun hc2 => ?_) (fun hc2 => ?_)
  · replace h := ifP h hc2
    refine vg_iconst (pc := 47) (dK D_Plan_isUnfit 23 rfl) ?_
    refine g_goto (pc := 48) (tgt := 52) (dK D_Plan_isUnfit 24 rfl) rfl ?_
    exact vg_iretB (pc := 52) (b := true) (dK D_Plan_isUnfit 26 rfl) rfl (leK rfl) (leK rfl) (fun _ => rfl) (by obtain rfl := Option.some.inj h; exact ⟨rfl, rfl⟩)
  · replace h := ifN h hc2
    refine g_aloadn (pc := 8) (i0 := 0) (j := 0) (dK D_Plan_isUnfit 4 rfl) rfl rfl ?_
    refine g_aloadn (pc := 9) (i0 := 0) (j := 0) (dK D_Plan_isUnfit 5 rfl) rfl rfl ?_
    refine vg_getO (pc := 10) (ci := 4) (f := 0) (dK D_Plan_isUnfit 6 rfl) q_301 hc0 (ltK rfl) (ltK rfl) rfl ?_
    refine vg_getO (pc := 13) (ci := 8) (f := 0) (dK D_Plan_isUnfit 7 rfl) q_233 (hw_4_0 hc0) (ltK rfl) (ltK rfl) rfl ?_
    refine vg_getA (pc := 16) (ci := 0) (f := 2) (dK D_Plan_isUnfit 8 rfl) q_97 (hw_8_0 (hw_4_0 hc0)) (ltK rfl) (ltK rfl) rfl ?_
    refine g_iloadn (pc := 19) (i0 := 1) (j := 1) (dK D_Plan_isUnfit 9 rfl) rfl rfl ?_
    refine gdE h (fun hi3 h => ?_)
    refine vg_iaload (pc := 20) (j := a1.toNat) (dK D_Plan_isUnfit 10 rfl) (hw_0_2 (hw_8_0 (hw_4_0 hc0))) rfl hi3 rfl ?_
    refine g_iloadn (pc := 21) (i0 := 2) (j := 2) (dK D_Plan_isUnfit 11 rfl) rfl rfl ?_
    refine bnE h (fun p4 e_p4 h => ?_)
    refine vg_cV (pc := 22) (As := [V (g S (tgt (tgt (tgt c0 0) 0) 2) a1.toNat), V a2]) (rest := []) (mc' := 0) (ms' := 0) (dK D_Plan_isUnfit 12 rfl) K_Plan_139 (fitK rfl) (ltK rfl) hc0 rfl (leK rfl) (leK rfl) (leK rfl) (tf_Plan_lacksColor hc0 (g_in _ _ _) ha2 e_p4) (kcB ?_)
    refine vg_ifB_ne (pc := 25) (b := p4) (t := 47) (dK D_Plan_isUnfit 13 rfl) rfl (fun hc5 => ?_) (fun hc5 => ?_)
    · replace h := ifP h hc5
      refine vg_iconst (pc := 47) (dK D_Plan_isUnfit 23 rfl) ?_
      refine g_goto (pc := 48) (tgt := 52) (dK D_Plan_isUnfit 24 rfl) rfl ?_
      exact vg_iretB (pc := 52) (b := true) (dK D_Plan_isUnfit 26 rfl) rfl (leK rfl) (leK rfl) (fun _ => rfl) (by obtain rfl := Option.some.inj h; exact ⟨rfl, rfl⟩)
    · replace h := ifN h hc5
      refine g_aloadn (pc := 28) (i0 := 0) (j := 0) (dK D_Plan_isUnfit 14 rfl) rfl rfl ?_
      refine vg_getO (pc := 29) (ci := 4) (f := 0) (dK D_Plan_isUnfit 15 rfl) q_301 hc0 (ltK rfl) (ltK rfl) rfl ?_
      refine vg_getO (pc := 32) (ci := 8) (f := 0) (dK D_Plan_isUnfit 16 rfl) q_233 (hw_4_0 hc0) (ltK rfl) (ltK rfl) rfl ?_
      refine vg_getA (pc := 35) (ci := 0) (f := 3) (dK D_Plan_isUnfit 17 rfl) q_102 (hw_8_0 (hw_4_0 hc0)) (ltK rfl) (ltK rfl) rfl ?_
      refine g_iloadn (pc := 38) (i0 := 1) (j := 1) (dK D_Plan_isUnfit 18 rfl) rfl rfl ?_
      refine vg_iaload (pc := 39) (j := a1.toNat) (dK D_Plan_isUnfit 19 rfl) (hw_0_3 (hw_8_0 (hw_4_0 hc0))) rfl hi3 rfl ?_
      refine g_iloadn (pc := 40) (i0 := 2) (j := 2) (dK D_Plan_isUnfit 20 rfl) rfl rfl ?_
      refine bnE h (fun p6 e_p6 h => ?_)
      refine vg_cS (pc := 41) (As := [V (g S (tgt (tgt (tgt c0 0) 0) 3) a1.toNat), V a2]) (rest := []) (mc' := 0) (ms' := 0) (dK D_Plan_isUnfit 21 rfl) K_Plan_146 (fitK rfl) rfl (leK rfl) (leK rfl) (leK rfl) (tf_Plan_isWrongSide (g_in _ _ _) ha2 e_p6) (kcB ?_)
      refine vg_ifB_eq (pc := 44) (b := p6) (t := 51) (dK D_Plan_isUnfit 22 rfl) rfl (fun hc7 => ?_) (fun hc7 => ?_)
      · replace h := ifP h hc7
        refine vg_iconst (pc := 47) (dK D_Plan_isUnfit 23 rfl) ?_
        refine g_goto (pc := 48) (tgt := 52) (dK D_Plan_isUnfit 24 rfl) rfl ?_
        exact vg_iretB (pc := 52) (b := true) (dK D_Plan_isUnfit 26 rfl) rfl (leK rfl) (leK rfl) (fun _ => rfl) (by obtain rfl := Option.some.inj h; exact ⟨rfl, rfl⟩)
      · replace h := ifN h hc7
        refine vg_iconst (pc := 51) (dK D_Plan_isUnfit 25 rfl) ?_
        exact vg_iretB (pc := 52) (b := false) (dK D_Plan_isUnfit 26 rfl) rfl (leK rfl) (leK rfl) (fun _ => rfl) (by obtain rfl := Option.some.inj h; exact ⟨rfl, rfl⟩)
def fn_Ads_areRivals (c0 : Nat) (a1 : Int) (a2 : Int) (S : St) : Option (Bool) := if a1 = a2 then (some false) else (if 0 ≤ a1 ∧ a1 < 40 then (if (g S (tgt c0 1) a1.toNat) = 0 then (some false) else (if 0 ≤ a2 ∧ a2 < 40 then (if (g S (tgt c0 1) a1.toNat) = (g S (tgt c0 1) a2.toNat) then (some true) else (some false)) else none)) else none)
theorem tf_Ads_areRivals {E : EV} {X : XT} {c0 : Nat} (hc0 : HC X 0 c0) {a1 : Int} (ha1 : inR a1) {a2 : Int} (ha2 : inR a2) {S : St} {q : Bool} (h : fn_Ads_areRivals c0 a1 a2 S = some q) : Ev E M_Ads_areRivals [.ref c0, V a1, V a2] (WX X S) 0 0 (KB X q S) := by
  refine Ev.of pn_Ads rfl (leK rfl) ?_
  show Go E M_Ads_areRivals 0 0 0 [(0, .ref c0), (1, V a1), (2, V a2)] [] (WX X S) 0 0 (KB X q S)
  unfold fn_Ads_areRivals at h
  refine g_iloadn (pc := 0) (i0 := 1) (j := 1) (dK D_Ads_areRivals 0 rfl) rfl rfl ?_
  refine g_iloadn (pc := 1) (i0 := 2) (j := 2) (dK D_Ads_areRivals 1 rfl) rfl rfl ?_
  refine vg_icmp_eq (pc := 2) (t := 33) (dK D_Ads_areRivals 2 rfl) rfl ha1 ha2 (fun hc5 => ?_) (fun hc5 => ?_)
  · replace h := ifP h hc5
    refine vg_iconst (pc := 33) (dK D_Ads_areRivals 19 rfl) ?_
    exact vg_iretB (pc := 34) (b := false) (dK D_Ads_areRivals 20 rfl) rfl (leK rfl) (leK rfl) (fun _ => rfl) (by obtain rfl := Option.some.inj h; exact ⟨rfl, rfl⟩)
  · replace h := ifN h hc5
    refine g_aloadn (pc := 5) (i0 := 0) (j := 0) (dK D_Ads_areRivals 3 rfl) rfl rfl ?_
    refine vg_getA (pc := 6) (ci := 0) (f := 1) (dK D_Ads_areRivals 4 rfl) q_91 hc0 (ltK rfl) (ltK rfl) rfl ?_
    refine g_iloadn (pc := 9) (i0 := 1) (j := 1) (dK D_Ads_areRivals 5 rfl) rfl rfl ?_
    refine gdE h (fun hi1 h => ?_)
    refine vg_iaload (pc := 10) (j := a1.toNat) (dK D_Ads_areRivals 6 rfl) (hw_0_1 hc0) rfl hi1 rfl ?_
    refine vg_if_eq (pc := 11) (t := 33) (dK D_Ads_areRivals 7 rfl) rfl (g_in _ _ _) (fun hc4 => ?_) (fun hc4 => ?_)
    · replace h := ifP h hc4
      refine vg_iconst (pc := 33) (dK D_Ads_areRivals 19 rfl) ?_
      exact vg_iretB (pc := 34) (b := false) (dK D_Ads_areRivals 20 rfl) rfl (leK rfl) (leK rfl) (fun _ => rfl) (by obtain rfl := Option.some.inj h; exact ⟨rfl, rfl⟩)
    · replace h := ifN h hc4
      refine g_aloadn (pc := 14) (i0 := 0) (j := 0) (dK D_Ads_areRivals 8 rfl) rfl rfl ?_
      refine vg_getA (pc := 15) (ci := 0) (f := 1) (dK D_Ads_areRivals 9 rfl) q_91 hc0 (ltK rfl) (ltK rfl) rfl ?_
      refine g_iloadn (pc := 18) (i0 := 1) (j := 1) (dK D_Ads_areRivals 10 rfl) rfl rfl ?_
      refine vg_iaload (pc := 19) (j := a1.toNat) (dK D_Ads_areRivals 11 rfl) (hw_0_1 hc0) rfl hi1 rfl ?_
      refine g_aloadn (pc := 20) (i0 := 0) (j := 0) (dK D_Ads_areRivals 12 rfl) rfl rfl ?_
      refine vg_getA (pc := 21) (ci := 0) (f := 1) (dK D_Ads_areRivals 13 rfl) q_91 hc0 (ltK rfl) (ltK rfl) rfl ?_
      refine g_iloadn (pc := 24) (i0 := 2) (j := 2) (dK D_Ads_areRivals 14 rfl) rfl rfl ?_
      refine gdE h (fun hi2 h => ?_)
      refine vg_iaload (pc := 25) (j := a2.toNat) (dK D_Ads_areRivals 15 rfl) (hw_0_1 hc0) rfl hi2 rfl ?_
      refine vg_icmp_ne (pc := 26) (t := 33) (dK D_Ads_areRivals 16 rfl) rfl (g_in _ _ _) (g_in _ _ _) (fun hc3 => ?_) (fun hc3 => ?_)
      · replace h := ifN h hc3
        refine vg_iconst (pc := 33) (dK D_Ads_areRivals 19 rfl) ?_
        exact vg_iretB (pc := 34) (b := false) (dK D_Ads_areRivals 20 rfl) rfl (leK rfl) (leK rfl) (fun _ => rfl) (by obtain rfl := Option.some.inj h; exact ⟨rfl, rfl⟩)
      · replace h := ifP h hc3
        refine vg_iconst (pc := 29) (dK D_Ads_areRivals 17 rfl) ?_
        refine g_goto (pc := 30) (tgt := 34) (dK D_Ads_areRivals 18 rfl) rfl ?_
        exact vg_iretB (pc := 34) (b := true) (dK D_Ads_areRivals 20 rfl) rfl (leK rfl) (leK rfl) (fun _ => rfl) (by obtain rfl := Option.some.inj h; exact ⟨rfl, rfl⟩)
def lb_Searches_rivalPricesBeside_5 (c0 : Nat) (a1 : Int) (a2 : Int) (S : St) (go : Int × Int → Option ((Int) ⊕ (Int))) (a3 : Int) (a4 : Int) : Option ((Int) ⊕ (Int)) := if (g S (tgt (tgt c0 1) 0) 7) ≤ a4 then (some (.inr a3)) else (if 0 ≤ a4 ∧ a4 < 40 then (if (g S (tgt (tgt (tgt c0 1) 0) 6) a4.toNat) = 0 then (nm (wr (a4 + 1)) fun v2 => go (a3, v2)) else (if (g S (tgt (tgt (tgt c0 1) 0) 6) a4.toNat) = a2 then (nm (wr (a4 + 1)) fun v3 => go (a3, v3)) else (nm (wr (a2.tdiv 2)) fun v4 => nm (wr ((g S (tgt (tgt (tgt c0 1) 0) 6) a4.toNat).tdiv 2)) fun v5 => if v5 = v4 then (bnO (fn_Ads_areRivals (tgt (tgt c0 1) 0) a1 a4 S) fun p7 => if p7 = true then (bnO (fn_Plan_isPrinted (tgt c0 0) (g S (tgt (tgt (tgt c0 1) 0) 6) a4.toNat) S) fun p10 => if p10 = true then (some (.inl (-1))) else (nm (wr (a3 + (g S (tgt (tgt (tgt c0 1) 0) 4) a4.toNat))) fun v12 => nm (wr (a4 + 1)) fun v13 => go (v12, v13))) else (nm (wr (a4 + 1)) fun v9 => go (a3, v9))) else (nm (wr (a4 + 1)) fun v6 => go (a3, v6))))) else none)
def lo_Searches_rivalPricesBeside_5 (c0 : Nat) (a1 : Int) (a2 : Int) (S : St) : Nat → Int × Int → Option ((Int) ⊕ (Int)) := lp fun go p => lb_Searches_rivalPricesBeside_5 c0 a1 a2 S go p.1 p.2
theorem tl_Searches_rivalPricesBeside_5 {E : EV} {X : XT} {c0 : Nat} (hc0 : HC X 6 c0) {a1 : Int} (ha1 : inR a1) {a2 : Int} (ha2 : inR a2) {S : St} {K : RK → PS → Prop} {q : (Int) ⊕ (Int)} (hx : ∀ p, q = .inr p → inR p → Go E M_Searches_rivalPricesBeside 0 0 108 [(3, V p)] [] (WX X S) 0 0 K) (hr : ∀ p, q = .inl p → inR p → K (.inl (some (V p))) (WX X S)) : ∀ n a, lo_Searches_rivalPricesBeside_5 c0 a1 a2 S n a = some q → inR a.1 → inR a.2 → Go E M_Searches_rivalPricesBeside 0 0 5 [(0, .ref c0), (1, V a1), (2, V a2), (3, V a.1), (4, V a.2)] [] (WX X S) 0 0 K := by
  refine lp_ind (P := fun a : Int × Int => inR a.1 → inR a.2 → Go E M_Searches_rivalPricesBeside 0 0 5 [(0, .ref c0), (1, V a1), (2, V a2), (3, V a.1), (4, V a.2)] [] (WX X S) 0 0 K) (fun go ih a h => ?_)
  obtain ⟨a3, a4⟩ := a
  intro ha3 ha4
  show Go E M_Searches_rivalPricesBeside 0 0 5 [(0, .ref c0), (1, V a1), (2, V a2), (3, V a3), (4, V a4)] [] (WX X S) 0 0 K
  replace h : lb_Searches_rivalPricesBeside_5 c0 a1 a2 S go a3 a4 = some q := h
  unfold lb_Searches_rivalPricesBeside_5 at h
  refine g_iload (pc := 5) (j := 4) (dK D_Searches_rivalPricesBeside_0 4 rfl) rfl ?_
  refine g_aloadn (pc := 7) (i0 := 0) (j := 0) (dK D_Searches_rivalPricesBeside_0 5 rfl) rfl rfl ?_
  refine vg_getO (pc := 8) (ci := 6) (f := 1) (dK D_Searches_rivalPricesBeside_0 6 rfl) q_381 hc0 (ltK rfl) (ltK rfl) rfl ?_
  refine vg_getO (pc := 11) (ci := 8) (f := 0) (dK D_Searches_rivalPricesBeside_0 7 rfl) q_232 (hw_6_1 hc0) (ltK rfl) (ltK rfl) rfl ?_
  refine vg_getI (pc := 14) (ci := 0) (f := 7) (dK D_Searches_rivalPricesBeside_0 8 rfl) q_117 (hw_8_0 (hw_6_1 hc0)) (ltK rfl) (ltK rfl) rfl ?_
  refine vg_icmp_ge (pc := 17) (t := 108) (dK D_Searches_rivalPricesBeside_0 9 rfl) rfl ha4 (g_in _ _ _) (fun hc17 => ?_) (fun hc17 => ?_)
  · replace h := ifP h hc17
    refine gL_weak (ls' := [(3, V a3)]) (sbc 3 rfl sbn) ?_
    exact hx _ (Option.some.inj h).symm ha3
  · replace h := ifN h hc17
    refine g_aloadn (pc := 20) (i0 := 0) (j := 0) (dK D_Searches_rivalPricesBeside_0 10 rfl) rfl rfl ?_
    refine vg_getO (pc := 21) (ci := 6) (f := 1) (dK D_Searches_rivalPricesBeside_0 11 rfl) q_381 hc0 (ltK rfl) (ltK rfl) rfl ?_
    refine vg_getO (pc := 24) (ci := 8) (f := 0) (dK D_Searches_rivalPricesBeside_0 12 rfl) q_232 (hw_6_1 hc0) (ltK rfl) (ltK rfl) rfl ?_
    refine vg_getA (pc := 27) (ci := 0) (f := 6) (dK D_Searches_rivalPricesBeside_0 13 rfl) q_112 (hw_8_0 (hw_6_1 hc0)) (ltK rfl) (ltK rfl) rfl ?_
    refine g_iload (pc := 30) (j := 4) (dK D_Searches_rivalPricesBeside_0 14 rfl) rfl ?_
    refine gdE h (fun hi1 h => ?_)
    refine vg_iaload (pc := 32) (j := a4.toNat) (dK D_Searches_rivalPricesBeside_0 15 rfl) (hw_0_6 (hw_8_0 (hw_6_1 hc0))) rfl hi1 rfl ?_
    refine g_istore (pc := 33) (ls2 := [(5, V (g S (tgt (tgt (tgt c0 1) 0) 6) a4.toNat)), (0, .ref c0), (1, V a1), (2, V a2), (3, V a3), (4, V a4)]) (dK D_Searches_rivalPricesBeside_0 16 rfl) (ltK rfl) rfl ?_
    refine g_iload (pc := 35) (j := 0) (dK D_Searches_rivalPricesBeside_0 17 rfl) rfl ?_
    refine vg_if_eq (pc := 37) (t := 102) (dK D_Searches_rivalPricesBeside_0 18 rfl) rfl (g_in _ _ _) (fun hc16 => ?_) (fun hc16 => ?_)
    · replace h := ifP h hc16
      refine nmE h (fun v2 e_v2 h => ?_)
      refine vg_iinc (pc := 102) (j := 5) (a := a4) (z := 1) (ls2 := [(4, V v2), (5, V (g S (tgt (tgt (tgt c0 1) 0) 6) a4.toNat)), (0, .ref c0), (1, V a1), (2, V a2), (3, V a3)]) (dK D_Searches_rivalPricesBeside_1 2 rfl) rfl e_v2 (ltK rfl) rfl ?_
      refine g_goto (pc := 105) (tgt := 5) (dK D_Searches_rivalPricesBeside_1 3 rfl) rfl ?_
      refine gL_weak (ls' := [(0, .ref c0), (1, V a1), (2, V a2), (3, V a3), (4, V v2)]) (sbc 2 rfl (sbc 3 rfl (sbc 4 rfl (sbc 5 rfl (sbc 0 rfl sbn))))) ?_
      replace h := ih _ h
      exact h ha3 (Vn_in e_v2)
    · replace h := ifN h hc16
      refine g_iload (pc := 40) (j := 0) (dK D_Searches_rivalPricesBeside_0 19 rfl) rfl ?_
      refine g_iloadn (pc := 42) (i0 := 2) (j := 3) (dK D_Searches_rivalPricesBeside_0 20 rfl) rfl rfl ?_
      refine vg_icmp_eq (pc := 43) (t := 102) (dK D_Searches_rivalPricesBeside_0 21 rfl) rfl (g_in _ _ _) ha2 (fun hc15 => ?_) (fun hc15 => ?_)
      · replace h := ifP h hc15
        refine nmE h (fun v3 e_v3 h => ?_)
        refine vg_iinc (pc := 102) (j := 5) (a := a4) (z := 1) (ls2 := [(4, V v3), (5, V (g S (tgt (tgt (tgt c0 1) 0) 6) a4.toNat)), (0, .ref c0), (1, V a1), (2, V a2), (3, V a3)]) (dK D_Searches_rivalPricesBeside_1 2 rfl) rfl e_v3 (ltK rfl) rfl ?_
        refine g_goto (pc := 105) (tgt := 5) (dK D_Searches_rivalPricesBeside_1 3 rfl) rfl ?_
        refine gL_weak (ls' := [(0, .ref c0), (1, V a1), (2, V a2), (3, V a3), (4, V v3)]) (sbc 2 rfl (sbc 3 rfl (sbc 4 rfl (sbc 5 rfl (sbc 0 rfl sbn))))) ?_
        replace h := ih _ h
        exact h ha3 (Vn_in e_v3)
      · replace h := ifN h hc15
        refine g_iload (pc := 46) (j := 0) (dK D_Searches_rivalPricesBeside_0 22 rfl) rfl ?_
        refine vg_iconst (pc := 48) (dK D_Searches_rivalPricesBeside_0 23 rfl) ?_
        refine vg_idiv (pc := 49) (dK D_Searches_rivalPricesBeside_0 24 rfl) (g_in _ _ _) (inRk rfl) (by decide) ?_
        refine g_iloadn (pc := 50) (i0 := 2) (j := 3) (dK D_Searches_rivalPricesBeside_0 25 rfl) rfl rfl ?_
        refine vg_iconst (pc := 51) (dK D_Searches_rivalPricesBeside_0 26 rfl) ?_
        refine vg_idiv (pc := 52) (dK D_Searches_rivalPricesBeside_0 27 rfl) ha2 (inRk rfl) (by decide) ?_
        refine nmE h (fun v4 e_v4 h => ?_)
        refine gtop e_v4 ?_
        refine nmE h (fun v5 e_v5 h => ?_)
        refine gsk (st' := [V v4, V v5]) (by rw [Vn e_v5]) ?_
        refine vg_icmp_ne (pc := 53) (t := 102) (dK D_Searches_rivalPricesBeside_0 28 rfl) rfl (Vn_in e_v5) (Vn_in e_v4) (fun hc14 => ?_) (fun hc14 => ?_)
        · replace h := ifN h hc14
          refine nmE h (fun v6 e_v6 h => ?_)
          refine vg_iinc (pc := 102) (j := 5) (a := a4) (z := 1) (ls2 := [(4, V v6), (5, V (g S (tgt (tgt (tgt c0 1) 0) 6) a4.toNat)), (0, .ref c0), (1, V a1), (2, V a2), (3, V a3)]) (dK D_Searches_rivalPricesBeside_1 2 rfl) rfl e_v6 (ltK rfl) rfl ?_
          refine g_goto (pc := 105) (tgt := 5) (dK D_Searches_rivalPricesBeside_1 3 rfl) rfl ?_
          refine gL_weak (ls' := [(0, .ref c0), (1, V a1), (2, V a2), (3, V a3), (4, V v6)]) (sbc 2 rfl (sbc 3 rfl (sbc 4 rfl (sbc 5 rfl (sbc 0 rfl sbn))))) ?_
          replace h := ih _ h
          exact h ha3 (Vn_in e_v6)
        · replace h := ifP h hc14
          refine g_aloadn (pc := 56) (i0 := 0) (j := 1) (dK D_Searches_rivalPricesBeside_0 29 rfl) rfl rfl ?_
          refine vg_getO (pc := 57) (ci := 6) (f := 1) (dK D_Searches_rivalPricesBeside_0 30 rfl) q_381 hc0 (ltK rfl) (ltK rfl) rfl ?_
          refine vg_getO (pc := 60) (ci := 8) (f := 0) (dK D_Searches_rivalPricesBeside_0 31 rfl) q_232 (hw_6_1 hc0) (ltK rfl) (ltK rfl) rfl ?_
          refine g_iloadn (pc := 63) (i0 := 1) (j := 2) (dK D_Searches_rivalPricesBeside_0 32 rfl) rfl rfl ?_
          refine g_iload (pc := 64) (j := 5) (dK D_Searches_rivalPricesBeside_0 33 rfl) rfl ?_
          refine bnE h (fun p7 e_p7 h => ?_)
          refine vg_cV (pc := 66) (As := [V a1, V a4]) (rest := []) (mc' := 0) (ms' := 0) (dK D_Searches_rivalPricesBeside_0 34 rfl) K_Searches_124 (fitK rfl) (ltK rfl) (hw_8_0 (hw_6_1 hc0)) rfl (leK rfl) (leK rfl) (leK rfl) (tf_Ads_areRivals (hw_8_0 (hw_6_1 hc0)) ha1 ha4 e_p7) (kcB ?_)
          refine vg_ifB_eq (pc := 69) (b := p7) (t := 102) (dK D_Searches_rivalPricesBeside_0 35 rfl) rfl (fun hc8 => ?_) (fun hc8 => ?_)
          · replace h := ifP h hc8
            refine g_aloadn (pc := 72) (i0 := 0) (j := 1) (dK D_Searches_rivalPricesBeside_0 36 rfl) rfl rfl ?_
            refine vg_getO (pc := 73) (ci := 6) (f := 0) (dK D_Searches_rivalPricesBeside_0 37 rfl) q_379 hc0 (ltK rfl) (ltK rfl) rfl ?_
            refine g_iload (pc := 76) (j := 0) (dK D_Searches_rivalPricesBeside_0 38 rfl) rfl ?_
            refine bnE h (fun p10 e_p10 h => ?_)
            refine vg_cV (pc := 78) (As := [V (g S (tgt (tgt (tgt c0 1) 0) 6) a4.toNat)]) (rest := []) (mc' := 0) (ms' := 0) (dK D_Searches_rivalPricesBeside_0 39 rfl) K_Searches_127 (fitK rfl) (ltK rfl) (hw_6_0 hc0) rfl (leK rfl) (leK rfl) (leK rfl) (tf_Plan_isPrinted (hw_6_0 hc0) (g_in _ _ _) e_p10) (kcB ?_)
            refine vg_ifB_eq (pc := 81) (b := p10) (t := 86) (dK D_Searches_rivalPricesBeside_0 40 rfl) rfl (fun hc11 => ?_) (fun hc11 => ?_)
            · replace h := ifP h hc11
              refine vg_iconst (pc := 84) (dK D_Searches_rivalPricesBeside_0 41 rfl) ?_
              exact vg_iretI (pc := 85) (r := (-1)) (dK D_Searches_rivalPricesBeside_0 42 rfl) rfl (leK rfl) (leK rfl) (fun _ => rfl) (hr _ (Option.some.inj h).symm (inRk rfl))
            · replace h := ifN h hc11
              refine g_iloadn (pc := 86) (i0 := 3) (j := 4) (dK D_Searches_rivalPricesBeside_0 43 rfl) rfl rfl ?_
              refine g_aloadn (pc := 87) (i0 := 0) (j := 1) (dK D_Searches_rivalPricesBeside_0 44 rfl) rfl rfl ?_
              refine vg_getO (pc := 88) (ci := 6) (f := 1) (dK D_Searches_rivalPricesBeside_0 45 rfl) q_381 hc0 (ltK rfl) (ltK rfl) rfl ?_
              refine vg_getO (pc := 91) (ci := 8) (f := 0) (dK D_Searches_rivalPricesBeside_0 46 rfl) q_232 (hw_6_1 hc0) (ltK rfl) (ltK rfl) rfl ?_
              refine vg_getA (pc := 94) (ci := 0) (f := 4) (dK D_Searches_rivalPricesBeside_0 47 rfl) q_104 (hw_8_0 (hw_6_1 hc0)) (ltK rfl) (ltK rfl) rfl ?_
              refine g_iload (pc := 97) (j := 5) (dK D_Searches_rivalPricesBeside_0 48 rfl) rfl ?_
              refine vg_iaload (pc := 99) (j := a4.toNat) (dK D_Searches_rivalPricesBeside_0 49 rfl) (hw_0_4 (hw_8_0 (hw_6_1 hc0))) rfl hi1 rfl ?_
              refine vg_iadd (pc := 100) (dK D_Searches_rivalPricesBeside_1 0 rfl) ?_
              refine nmE h (fun v12 e_v12 h => ?_)
              refine gtop e_v12 ?_
              refine g_istoren (pc := 101) (i0 := 3) (ls2 := [(3, V v12), (5, V (g S (tgt (tgt (tgt c0 1) 0) 6) a4.toNat)), (0, .ref c0), (1, V a1), (2, V a2), (4, V a4)]) (dK D_Searches_rivalPricesBeside_1 1 rfl) rfl (ltK rfl) rfl ?_
              refine nmE h (fun v13 e_v13 h => ?_)
              refine vg_iinc (pc := 102) (j := 5) (a := a4) (z := 1) (ls2 := [(4, V v13), (3, V v12), (5, V (g S (tgt (tgt (tgt c0 1) 0) 6) a4.toNat)), (0, .ref c0), (1, V a1), (2, V a2)]) (dK D_Searches_rivalPricesBeside_1 2 rfl) rfl e_v13 (ltK rfl) rfl ?_
              refine g_goto (pc := 105) (tgt := 5) (dK D_Searches_rivalPricesBeside_1 3 rfl) rfl ?_
              refine gL_weak (ls' := [(0, .ref c0), (1, V a1), (2, V a2), (3, V v12), (4, V v13)]) (sbc 3 rfl (sbc 4 rfl (sbc 5 rfl (sbc 1 rfl (sbc 0 rfl sbn))))) ?_
              replace h := ih _ h
              exact h (Vn_in e_v12) (Vn_in e_v13)
          · replace h := ifN h hc8
            refine nmE h (fun v9 e_v9 h => ?_)
            refine vg_iinc (pc := 102) (j := 5) (a := a4) (z := 1) (ls2 := [(4, V v9), (5, V (g S (tgt (tgt (tgt c0 1) 0) 6) a4.toNat)), (0, .ref c0), (1, V a1), (2, V a2), (3, V a3)]) (dK D_Searches_rivalPricesBeside_1 2 rfl) rfl e_v9 (ltK rfl) rfl ?_
            refine g_goto (pc := 105) (tgt := 5) (dK D_Searches_rivalPricesBeside_1 3 rfl) rfl ?_
            refine gL_weak (ls' := [(0, .ref c0), (1, V a1), (2, V a2), (3, V a3), (4, V v9)]) (sbc 2 rfl (sbc 3 rfl (sbc 4 rfl (sbc 5 rfl (sbc 0 rfl sbn))))) ?_
            replace h := ih _ h
            exact h ha3 (Vn_in e_v9)
def fn_Searches_rivalPricesBeside (c0 : Nat) (a1 : Int) (a2 : Int) (S : St) : Option (Int) := bnS (lo_Searches_rivalPricesBeside_5 c0 a1 a2 S FU (0, 0)) (fun p19 => some p19) fun p18 => some p18
theorem tf_Searches_rivalPricesBeside {E : EV} {X : XT} {c0 : Nat} (hc0 : HC X 6 c0) {a1 : Int} (ha1 : inR a1) {a2 : Int} (ha2 : inR a2) {S : St} {q : Int} (h : fn_Searches_rivalPricesBeside c0 a1 a2 S = some q) : Ev E M_Searches_rivalPricesBeside [.ref c0, V a1, V a2] (WX X S) 0 0 (KI X q S) := by
  refine Ev.of pn_Searches rfl (leK rfl) ?_
  show Go E M_Searches_rivalPricesBeside 0 0 0 [(0, .ref c0), (1, V a1), (2, V a2)] [] (WX X S) 0 0 (KI X q S)
  unfold fn_Searches_rivalPricesBeside at h
  refine vg_iconst (pc := 0) (dK D_Searches_rivalPricesBeside_0 0 rfl) ?_
  refine g_istoren (pc := 1) (i0 := 3) (ls2 := [(3, V 0), (0, .ref c0), (1, V a1), (2, V a2)]) (dK D_Searches_rivalPricesBeside_0 1 rfl) rfl (ltK rfl) rfl ?_
  refine vg_iconst (pc := 2) (dK D_Searches_rivalPricesBeside_0 2 rfl) ?_
  refine g_istore (pc := 3) (ls2 := [(4, V 0), (3, V 0), (0, .ref c0), (1, V a1), (2, V a2)]) (dK D_Searches_rivalPricesBeside_0 3 rfl) (ltK rfl) rfl ?_
  refine bnSE h (fun p19 e_p19 h => ?_) (fun p18 e_p18 h => ?_)
  · refine gL_weak (ls' := [(0, .ref c0), (1, V a1), (2, V a2), (3, V 0), (4, V 0)]) (sbc 2 rfl (sbc 3 rfl (sbc 4 rfl (sbc 1 rfl (sbc 0 rfl sbn))))) ?_
    refine tl_Searches_rivalPricesBeside_5 hc0 ha1 ha2 (fun _ e => slr e) (fun p e hr_p19 => ?_) FU (0, 0) e_p19 (inRk rfl) (inRk rfl)
    have e := Sum.inl.inj e
    subst e
    exact (by obtain rfl := Option.some.inj h; exact ⟨rfl, hr_p19, rfl⟩)
  · refine gL_weak (ls' := [(0, .ref c0), (1, V a1), (2, V a2), (3, V 0), (4, V 0)]) (sbc 2 rfl (sbc 3 rfl (sbc 4 rfl (sbc 1 rfl (sbc 0 rfl sbn))))) ?_
    refine tl_Searches_rivalPricesBeside_5 hc0 ha1 ha2 (fun p e hx3_p18 => ?_) (fun _ e => srl e) FU (0, 0) e_p18 (inRk rfl) (inRk rfl)
    have e := Sum.inr.inj e
    subst e
    refine g_iloadn (pc := 108) (i0 := 3) (j := 0) (dK D_Searches_rivalPricesBeside_1 4 rfl) rfl rfl ?_
    exact vg_iretI (pc := 109) (r := p18) (dK D_Searches_rivalPricesBeside_1 5 rfl) rfl (leK rfl) (leK rfl) (fun _ => rfl) (by obtain rfl := Option.some.inj h; exact ⟨rfl, hx3_p18, rfl⟩)
def lb_Searches_removedPrices_17 (c0 : Nat) (a1 : Int) (a3 : Int) (a4 : Int) (S : St) (go : Int × Int × Int → Option ((Int) ⊕ (Int × Int))) (a5 : Int) (a6 : Int) (a7 : Int) : Option ((Int) ⊕ (Int × Int)) := if a3 ≤ a7 then (some (.inr (a5, a6))) else (if (i_and (i_shr a4 a7) 1) = 1 then (if 0 ≤ a7 ∧ a7 < 4 then (if 0 ≤ (g S (tgt c0 3) a7.toNat) ∧ (g S (tgt c0 3) a7.toNat) < 40 then (nm (wr (a5 + (g S (tgt (tgt (tgt c0 1) 0) 0) (((g S (tgt c0 3) a7.toNat)).toNat)))) fun v8 => nm (wr (a6 + (g S (tgt (tgt (tgt c0 1) 0) 4) (((g S (tgt c0 3) a7.toNat)).toNat)))) fun v9 => nm (wr (a7 + 1)) fun v10 => go (v8, v9, v10)) else none) else none) else (if 0 ≤ a7 ∧ a7 < 4 then (bnO (fn_Ads_areRivals (tgt (tgt c0 1) 0) a1 (g S (tgt c0 3) a7.toNat) S) fun p3 => if p3 = true then (some (.inl (-1))) else (nm (wr (a7 + 1)) fun v5 => go (a5, a6, v5))) else none))
def lo_Searches_removedPrices_17 (c0 : Nat) (a1 : Int) (a3 : Int) (a4 : Int) (S : St) : Nat → Int × Int × Int → Option ((Int) ⊕ (Int × Int)) := lp fun go p => lb_Searches_removedPrices_17 c0 a1 a3 a4 S go p.1 p.2.1 p.2.2
theorem tl_Searches_removedPrices_17 {E : EV} {X : XT} {c0 : Nat} (hc0 : HC X 6 c0) {a1 : Int} (ha1 : inR a1) {a3 : Int} (ha3 : inR a3) {a4 : Int} (ha4 : inR a4) {S : St} {K : RK → PS → Prop} {q : (Int) ⊕ (Int × Int)} (hx : ∀ p, q = .inr p → inR p.1 → inR p.2 → Go E M_Searches_removedPrices 0 0 112 [(0, .ref c0), (1, V a1), (5, V p.1), (6, V p.2)] [] (WX X S) 0 0 K) (hr : ∀ p, q = .inl p → inR p → K (.inl (some (V p))) (WX X S)) : ∀ n a, lo_Searches_removedPrices_17 c0 a1 a3 a4 S n a = some q → inR a.1 → inR a.2.1 → inR a.2.2 → Go E M_Searches_removedPrices 0 0 17 [(0, .ref c0), (1, V a1), (3, V a3), (4, V a4), (5, V a.1), (6, V a.2.1), (7, V a.2.2)] [] (WX X S) 0 0 K := by
  refine lp_ind (P := fun a : Int × Int × Int => inR a.1 → inR a.2.1 → inR a.2.2 → Go E M_Searches_removedPrices 0 0 17 [(0, .ref c0), (1, V a1), (3, V a3), (4, V a4), (5, V a.1), (6, V a.2.1), (7, V a.2.2)] [] (WX X S) 0 0 K) (fun go ih a h => ?_)
  obtain ⟨a5, a6, a7⟩ := a
  intro ha5 ha6 ha7
  show Go E M_Searches_removedPrices 0 0 17 [(0, .ref c0), (1, V a1), (3, V a3), (4, V a4), (5, V a5), (6, V a6), (7, V a7)] [] (WX X S) 0 0 K
  replace h : lb_Searches_removedPrices_17 c0 a1 a3 a4 S go a5 a6 a7 = some q := h
  unfold lb_Searches_removedPrices_17 at h
  refine g_iload (pc := 17) (j := 6) (dK D_Searches_removedPrices_0 10 rfl) rfl ?_
  refine g_iloadn (pc := 19) (i0 := 3) (j := 2) (dK D_Searches_removedPrices_0 11 rfl) rfl rfl ?_
  refine vg_icmp_ge (pc := 20) (t := 112) (dK D_Searches_removedPrices_0 12 rfl) rfl ha7 ha3 (fun hc12 => ?_) (fun hc12 => ?_)
  · replace h := ifP h hc12
    refine gL_weak (ls' := [(0, .ref c0), (1, V a1), (5, V a5), (6, V a6)]) (sbc 0 rfl (sbc 1 rfl (sbc 4 rfl (sbc 5 rfl sbn)))) ?_
    exact hx _ (Option.some.inj h).symm ha5 ha6
  · replace h := ifN h hc12
    refine g_iload (pc := 23) (j := 3) (dK D_Searches_removedPrices_0 13 rfl) rfl ?_
    refine g_iload (pc := 25) (j := 6) (dK D_Searches_removedPrices_0 14 rfl) rfl ?_
    refine vg_ishr (pc := 27) (dK D_Searches_removedPrices_0 15 rfl) ?_
    refine vg_iconst (pc := 28) (dK D_Searches_removedPrices_0 16 rfl) ?_
    refine vg_iand (pc := 29) (dK D_Searches_removedPrices_0 17 rfl) ?_
    refine vg_iconst (pc := 30) (dK D_Searches_removedPrices_0 18 rfl) ?_
    refine vg_icmp_ne (pc := 31) (t := 83) (dK D_Searches_removedPrices_0 19 rfl) rfl (toInt_in _) (inRk rfl) (fun hc11 => ?_) (fun hc11 => ?_)
    · replace h := ifN h hc11
      refine g_aloadn (pc := 83) (i0 := 0) (j := 0) (dK D_Searches_removedPrices_0 45 rfl) rfl rfl ?_
      refine vg_getO (pc := 84) (ci := 6) (f := 1) (dK D_Searches_removedPrices_0 46 rfl) q_381 hc0 (ltK rfl) (ltK rfl) rfl ?_
      refine vg_getO (pc := 87) (ci := 8) (f := 0) (dK D_Searches_removedPrices_0 47 rfl) q_232 (hw_6_1 hc0) (ltK rfl) (ltK rfl) rfl ?_
      refine g_iloadn (pc := 90) (i0 := 1) (j := 1) (dK D_Searches_removedPrices_0 48 rfl) rfl rfl ?_
      refine g_aloadn (pc := 91) (i0 := 0) (j := 0) (dK D_Searches_removedPrices_0 49 rfl) rfl rfl ?_
      refine vg_getA (pc := 92) (ci := 6) (f := 3) (dK D_Searches_removedPrices_1 0 rfl) q_383 hc0 (ltK rfl) (ltK rfl) rfl ?_
      refine g_iload (pc := 95) (j := 6) (dK D_Searches_removedPrices_1 1 rfl) rfl ?_
      refine gdE h (fun hi2 h => ?_)
      refine vg_iaload (pc := 97) (j := a7.toNat) (dK D_Searches_removedPrices_1 2 rfl) (hw_6_3 hc0) rfl hi2 rfl ?_
      refine bnE h (fun p3 e_p3 h => ?_)
      refine vg_cV (pc := 98) (As := [V a1, V (g S (tgt c0 3) a7.toNat)]) (rest := []) (mc' := 0) (ms' := 0) (dK D_Searches_removedPrices_1 3 rfl) K_Searches_124 (fitK rfl) (ltK rfl) (hw_8_0 (hw_6_1 hc0)) rfl (leK rfl) (leK rfl) (leK rfl) (tf_Ads_areRivals (hw_8_0 (hw_6_1 hc0)) ha1 (g_in _ _ _) e_p3) (kcB ?_)
      refine vg_ifB_eq (pc := 101) (b := p3) (t := 106) (dK D_Searches_removedPrices_1 4 rfl) rfl (fun hc4 => ?_) (fun hc4 => ?_)
      · replace h := ifP h hc4
        refine vg_iconst (pc := 104) (dK D_Searches_removedPrices_1 5 rfl) ?_
        exact vg_iretI (pc := 105) (r := (-1)) (dK D_Searches_removedPrices_1 6 rfl) rfl (leK rfl) (leK rfl) (fun _ => rfl) (hr _ (Option.some.inj h).symm (inRk rfl))
      · replace h := ifN h hc4
        refine nmE h (fun v5 e_v5 h => ?_)
        refine vg_iinc (pc := 106) (j := 6) (a := a7) (z := 1) (ls2 := [(7, V v5), (0, .ref c0), (1, V a1), (3, V a3), (4, V a4), (5, V a5), (6, V a6)]) (dK D_Searches_removedPrices_1 7 rfl) rfl e_v5 (ltK rfl) rfl ?_
        refine g_goto (pc := 109) (tgt := 17) (dK D_Searches_removedPrices_1 8 rfl) rfl ?_
        refine gL_weak (ls' := [(0, .ref c0), (1, V a1), (3, V a3), (4, V a4), (5, V a5), (6, V a6), (7, V v5)]) (sbc 1 rfl (sbc 2 rfl (sbc 3 rfl (sbc 4 rfl (sbc 5 rfl (sbc 6 rfl (sbc 0 rfl sbn))))))) ?_
        replace h := ih _ h
        exact h ha5 ha6 (Vn_in e_v5)
    · replace h := ifP h hc11
      refine g_iload (pc := 34) (j := 4) (dK D_Searches_removedPrices_0 20 rfl) rfl ?_
      refine g_aloadn (pc := 36) (i0 := 0) (j := 0) (dK D_Searches_removedPrices_0 21 rfl) rfl rfl ?_
      refine vg_getO (pc := 37) (ci := 6) (f := 1) (dK D_Searches_removedPrices_0 22 rfl) q_381 hc0 (ltK rfl) (ltK rfl) rfl ?_
      refine vg_getO (pc := 40) (ci := 8) (f := 0) (dK D_Searches_removedPrices_0 23 rfl) q_232 (hw_6_1 hc0) (ltK rfl) (ltK rfl) rfl ?_
      refine vg_getA (pc := 43) (ci := 0) (f := 0) (dK D_Searches_removedPrices_0 24 rfl) q_88 (hw_8_0 (hw_6_1 hc0)) (ltK rfl) (ltK rfl) rfl ?_
      refine g_aloadn (pc := 46) (i0 := 0) (j := 0) (dK D_Searches_removedPrices_0 25 rfl) rfl rfl ?_
      refine vg_getA (pc := 47) (ci := 6) (f := 3) (dK D_Searches_removedPrices_0 26 rfl) q_383 hc0 (ltK rfl) (ltK rfl) rfl ?_
      refine g_iload (pc := 50) (j := 6) (dK D_Searches_removedPrices_0 27 rfl) rfl ?_
      refine gdE h (fun hi6 h => ?_)
      refine vg_iaload (pc := 52) (j := a7.toNat) (dK D_Searches_removedPrices_0 28 rfl) (hw_6_3 hc0) rfl hi6 rfl ?_
      refine gdE h (fun hi7 h => ?_)
      refine vg_iaload (pc := 53) (j := ((g S (tgt c0 3) a7.toNat)).toNat) (dK D_Searches_removedPrices_0 29 rfl) (hw_0_0 (hw_8_0 (hw_6_1 hc0))) rfl hi7 rfl ?_
      refine vg_iadd (pc := 54) (dK D_Searches_removedPrices_0 30 rfl) ?_
      refine nmE h (fun v8 e_v8 h => ?_)
      refine gtop e_v8 ?_
      refine g_istore (pc := 55) (ls2 := [(5, V v8), (0, .ref c0), (1, V a1), (3, V a3), (4, V a4), (6, V a6), (7, V a7)]) (dK D_Searches_removedPrices_0 31 rfl) (ltK rfl) rfl ?_
      refine g_iload (pc := 57) (j := 5) (dK D_Searches_removedPrices_0 32 rfl) rfl ?_
      refine g_aloadn (pc := 59) (i0 := 0) (j := 1) (dK D_Searches_removedPrices_0 33 rfl) rfl rfl ?_
      refine vg_getO (pc := 60) (ci := 6) (f := 1) (dK D_Searches_removedPrices_0 34 rfl) q_381 hc0 (ltK rfl) (ltK rfl) rfl ?_
      refine vg_getO (pc := 63) (ci := 8) (f := 0) (dK D_Searches_removedPrices_0 35 rfl) q_232 (hw_6_1 hc0) (ltK rfl) (ltK rfl) rfl ?_
      refine vg_getA (pc := 66) (ci := 0) (f := 4) (dK D_Searches_removedPrices_0 36 rfl) q_104 (hw_8_0 (hw_6_1 hc0)) (ltK rfl) (ltK rfl) rfl ?_
      refine g_aloadn (pc := 69) (i0 := 0) (j := 1) (dK D_Searches_removedPrices_0 37 rfl) rfl rfl ?_
      refine vg_getA (pc := 70) (ci := 6) (f := 3) (dK D_Searches_removedPrices_0 38 rfl) q_383 hc0 (ltK rfl) (ltK rfl) rfl ?_
      refine g_iload (pc := 73) (j := 6) (dK D_Searches_removedPrices_0 39 rfl) rfl ?_
      refine vg_iaload (pc := 75) (j := a7.toNat) (dK D_Searches_removedPrices_0 40 rfl) (hw_6_3 hc0) rfl hi6 rfl ?_
      refine vg_iaload (pc := 76) (j := ((g S (tgt c0 3) a7.toNat)).toNat) (dK D_Searches_removedPrices_0 41 rfl) (hw_0_4 (hw_8_0 (hw_6_1 hc0))) rfl hi7 rfl ?_
      refine vg_iadd (pc := 77) (dK D_Searches_removedPrices_0 42 rfl) ?_
      refine nmE h (fun v9 e_v9 h => ?_)
      refine gtop e_v9 ?_
      refine g_istore (pc := 78) (ls2 := [(6, V v9), (5, V v8), (0, .ref c0), (1, V a1), (3, V a3), (4, V a4), (7, V a7)]) (dK D_Searches_removedPrices_0 43 rfl) (ltK rfl) rfl ?_
      refine g_goto (pc := 80) (tgt := 106) (dK D_Searches_removedPrices_0 44 rfl) rfl ?_
      refine nmE h (fun v10 e_v10 h => ?_)
      refine vg_iinc (pc := 106) (j := 6) (a := a7) (z := 1) (ls2 := [(7, V v10), (6, V v9), (5, V v8), (0, .ref c0), (1, V a1), (3, V a3), (4, V a4)]) (dK D_Searches_removedPrices_1 7 rfl) rfl e_v10 (ltK rfl) rfl ?_
      refine g_goto (pc := 109) (tgt := 17) (dK D_Searches_removedPrices_1 8 rfl) rfl ?_
      refine gL_weak (ls' := [(0, .ref c0), (1, V a1), (3, V a3), (4, V a4), (5, V v8), (6, V v9), (7, V v10)]) (sbc 3 rfl (sbc 4 rfl (sbc 5 rfl (sbc 6 rfl (sbc 2 rfl (sbc 1 rfl (sbc 0 rfl sbn))))))) ?_
      replace h := ih _ h
      exact h (Vn_in e_v8) (Vn_in e_v9) (Vn_in e_v10)
def fn_Searches_removedPrices (c0 : Nat) (a1 : Int) (a2 : Int) (a3 : Int) (a4 : Int) (S : St) : Option (Int) := bnO (fn_Plan_roomFor (tgt c0 0) a1 a2 S) fun p1 => bnS (lo_Searches_removedPrices_17 c0 a1 a3 a4 S FU (p1, 0, 0)) (fun p16 => some p16) fun p13 => if 0 ≤ a1 ∧ a1 < 40 then (if (g S (tgt (tgt (tgt c0 1) 0) 0) a1.toNat) ≤ p13.1 then (some p13.2) else (some (-1))) else none
theorem tf_Searches_removedPrices {E : EV} {X : XT} {c0 : Nat} (hc0 : HC X 6 c0) {a1 : Int} (ha1 : inR a1) {a2 : Int} (ha2 : inR a2) {a3 : Int} (ha3 : inR a3) {a4 : Int} (ha4 : inR a4) {S : St} {q : Int} (h : fn_Searches_removedPrices c0 a1 a2 a3 a4 S = some q) : Ev E M_Searches_removedPrices [.ref c0, V a1, V a2, V a3, V a4] (WX X S) 0 0 (KI X q S) := by
  refine Ev.of pn_Searches rfl (leK rfl) ?_
  show Go E M_Searches_removedPrices 0 0 0 [(0, .ref c0), (1, V a1), (2, V a2), (3, V a3), (4, V a4)] [] (WX X S) 0 0 (KI X q S)
  unfold fn_Searches_removedPrices at h
  refine g_aloadn (pc := 0) (i0 := 0) (j := 0) (dK D_Searches_removedPrices_0 0 rfl) rfl rfl ?_
  refine vg_getO (pc := 1) (ci := 6) (f := 0) (dK D_Searches_removedPrices_0 1 rfl) q_379 hc0 (ltK rfl) (ltK rfl) rfl ?_
  refine g_iloadn (pc := 4) (i0 := 1) (j := 1) (dK D_Searches_removedPrices_0 2 rfl) rfl rfl ?_
  refine g_iloadn (pc := 5) (i0 := 2) (j := 2) (dK D_Searches_removedPrices_0 3 rfl) rfl rfl ?_
  refine bnE h (fun p1 e_p1 h => ?_)
  refine vg_cV (pc := 6) (As := [V a1, V a2]) (rest := []) (mc' := 0) (ms' := 0) (dK D_Searches_removedPrices_0 4 rfl) K_Searches_134 (fitK rfl) (ltK rfl) (hw_6_0 hc0) rfl (leK rfl) (leK rfl) (leK rfl) (tf_Plan_roomFor (hw_6_0 hc0) ha1 ha2 e_p1) (kcI (fun h_p1 => ?_))
  refine g_istore (pc := 9) (ls2 := [(5, V p1), (0, .ref c0), (1, V a1), (2, V a2), (3, V a3), (4, V a4)]) (dK D_Searches_removedPrices_0 5 rfl) (ltK rfl) rfl ?_
  refine vg_iconst (pc := 11) (dK D_Searches_removedPrices_0 6 rfl) ?_
  refine g_istore (pc := 12) (ls2 := [(6, V 0), (5, V p1), (0, .ref c0), (1, V a1), (2, V a2), (3, V a3), (4, V a4)]) (dK D_Searches_removedPrices_0 7 rfl) (ltK rfl) rfl ?_
  refine vg_iconst (pc := 14) (dK D_Searches_removedPrices_0 8 rfl) ?_
  refine g_istore (pc := 15) (ls2 := [(7, V 0), (6, V 0), (5, V p1), (0, .ref c0), (1, V a1), (2, V a2), (3, V a3), (4, V a4)]) (dK D_Searches_removedPrices_0 9 rfl) (ltK rfl) rfl ?_
  refine bnSE h (fun p16 e_p16 h => ?_) (fun p13 e_p13 h => ?_)
  · refine gL_weak (ls' := [(0, .ref c0), (1, V a1), (3, V a3), (4, V a4), (5, V p1), (6, V 0), (7, V 0)]) (sbc 3 rfl (sbc 4 rfl (sbc 6 rfl (sbc 7 rfl (sbc 2 rfl (sbc 1 rfl (sbc 0 rfl sbn))))))) ?_
    refine tl_Searches_removedPrices_17 hc0 ha1 ha3 ha4 (fun _ e => slr e) (fun p e hr_p16 => ?_) FU (p1, 0, 0) e_p16 h_p1 (inRk rfl) (inRk rfl)
    have e := Sum.inl.inj e
    subst e
    exact (by obtain rfl := Option.some.inj h; exact ⟨rfl, hr_p16, rfl⟩)
  · refine gL_weak (ls' := [(0, .ref c0), (1, V a1), (3, V a3), (4, V a4), (5, V p1), (6, V 0), (7, V 0)]) (sbc 3 rfl (sbc 4 rfl (sbc 6 rfl (sbc 7 rfl (sbc 2 rfl (sbc 1 rfl (sbc 0 rfl sbn))))))) ?_
    refine tl_Searches_removedPrices_17 hc0 ha1 ha3 ha4 (fun p e hx5_p13 hx6_p13 => ?_) (fun _ e => srl e) FU (p1, 0, 0) e_p13 h_p1 (inRk rfl) (inRk rfl)
    have e := Sum.inr.inj e
    subst e
    refine g_iload (pc := 112) (j := 2) (dK D_Searches_removedPrices_1 9 rfl) rfl ?_
    refine g_aloadn (pc := 114) (i0 := 0) (j := 0) (dK D_Searches_removedPrices_1 10 rfl) rfl rfl ?_
    refine vg_getO (pc := 115) (ci := 6) (f := 1) (dK D_Searches_removedPrices_1 11 rfl) q_381 hc0 (ltK rfl) (ltK rfl) rfl ?_
    refine vg_getO (pc := 118) (ci := 8) (f := 0) (dK D_Searches_removedPrices_1 12 rfl) q_232 (hw_6_1 hc0) (ltK rfl) (ltK rfl) rfl ?_
    refine vg_getA (pc := 121) (ci := 0) (f := 0) (dK D_Searches_removedPrices_1 13 rfl) q_88 (hw_8_0 (hw_6_1 hc0)) (ltK rfl) (ltK rfl) rfl ?_
    refine g_iloadn (pc := 124) (i0 := 1) (j := 1) (dK D_Searches_removedPrices_1 14 rfl) rfl rfl ?_
    refine gdE h (fun hi14 h => ?_)
    refine vg_iaload (pc := 125) (j := a1.toNat) (dK D_Searches_removedPrices_1 15 rfl) (hw_0_0 (hw_8_0 (hw_6_1 hc0))) rfl hi14 rfl ?_
    refine vg_icmp_ge (pc := 126) (t := 133) (dK D_Searches_removedPrices_1 16 rfl) rfl hx5_p13 (g_in _ _ _) (fun hc15 => ?_) (fun hc15 => ?_)
    · replace h := ifP h hc15
      refine g_iload (pc := 133) (j := 3) (dK D_Searches_removedPrices_1 19 rfl) rfl ?_
      exact vg_iretI (pc := 135) (r := p13.2) (dK D_Searches_removedPrices_1 20 rfl) rfl (leK rfl) (leK rfl) (fun _ => rfl) (by obtain rfl := Option.some.inj h; exact ⟨rfl, hx6_p13, rfl⟩)
    · replace h := ifN h hc15
      refine vg_iconst (pc := 129) (dK D_Searches_removedPrices_1 17 rfl) ?_
      refine g_goto (pc := 130) (tgt := 135) (dK D_Searches_removedPrices_1 18 rfl) rfl ?_
      exact vg_iretI (pc := 135) (r := (-1)) (dK D_Searches_removedPrices_1 20 rfl) rfl (leK rfl) (leK rfl) (fun _ => rfl) (by obtain rfl := Option.some.inj h; exact ⟨rfl, (inRk rfl), rfl⟩)
