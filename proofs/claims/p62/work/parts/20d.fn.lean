def lb_Searches_pricesForRoom_5 (c0 : Nat) (a1 : Int) (a2 : Int) (go : Int × Int × St → Option (Int × St)) (a3 : Int) (a4 : Int) (S : St) : Option (Int × St) := if (g S (tgt (tgt c0 1) 0) 7) ≤ a4 then (some (a3, S)) else (if 4 ≤ a3 then (some (a3, S)) else (if a4 = a1 then (nm (wr (a4 + 1)) fun v1 => go (a3, v1, S)) else (if 0 ≤ a4 ∧ a4 < 40 then (if (g S (tgt (tgt (tgt c0 1) 0) 6) a4.toNat) = a2 then (if 0 ≤ a3 ∧ a3 < 4 then (nm (u S (tgt c0 3) a3.toNat a4) fun S5 => nm (wr (a3 + 1)) fun v6 => nm (wr (a4 + 1)) fun v7 => go (v6, v7, S5)) else none) else (nm (wr (a4 + 1)) fun v3 => go (a3, v3, S))) else none)))
def lo_Searches_pricesForRoom_5 (c0 : Nat) (a1 : Int) (a2 : Int) : Nat → Int × Int × St → Option (Int × St) := lp fun go p => lb_Searches_pricesForRoom_5 c0 a1 a2 go p.1 p.2.1 p.2.2
theorem tl_Searches_pricesForRoom_5 {E : EV} {X : XT} {c0 : Nat} (hc0 : HC X 6 c0) {a1 : Int} (ha1 : inR a1) {a2 : Int} (ha2 : inR a2) {K : RK → PS → Prop} {q : Int × St} (hx : inR q.1 → Go E M_Searches_pricesForRoom 0 0 65 [(0, .ref c0), (1, V a1), (2, V a2), (3, V q.1)] [] (WX X q.2) 0 0 K) : ∀ n a, lo_Searches_pricesForRoom_5 c0 a1 a2 n a = some q → inR a.1 → inR a.2.1 → Go E M_Searches_pricesForRoom 0 0 5 [(0, .ref c0), (1, V a1), (2, V a2), (3, V a.1), (4, V a.2.1)] [] (WX X a.2.2) 0 0 K := by
  refine lp_ind (P := fun a : Int × Int × St => inR a.1 → inR a.2.1 → Go E M_Searches_pricesForRoom 0 0 5 [(0, .ref c0), (1, V a1), (2, V a2), (3, V a.1), (4, V a.2.1)] [] (WX X a.2.2) 0 0 K) (fun go ih a h => ?_)
  obtain ⟨a3, a4, S⟩ := a
  intro ha3 ha4
  show Go E M_Searches_pricesForRoom 0 0 5 [(0, .ref c0), (1, V a1), (2, V a2), (3, V a3), (4, V a4)] [] (WX X S) 0 0 K
  replace h : lb_Searches_pricesForRoom_5 c0 a1 a2 go a3 a4 S = some q := h
  unfold lb_Searches_pricesForRoom_5 at h
  refine g_iload (pc := 5) (j := 4) (dK D_Searches_pricesForRoom_0 4 rfl) rfl ?_
  refine g_aloadn (pc := 7) (i0 := 0) (j := 0) (dK D_Searches_pricesForRoom_0 5 rfl) rfl rfl ?_
  refine vg_getO (pc := 8) (ci := 6) (f := 1) (dK D_Searches_pricesForRoom_0 6 rfl) q_381 hc0 (ltK rfl) (ltK rfl) rfl ?_
  refine vg_getO (pc := 11) (ci := 8) (f := 0) (dK D_Searches_pricesForRoom_0 7 rfl) q_232 (hw_6_1 hc0) (ltK rfl) (ltK rfl) rfl ?_
  refine vg_getI (pc := 14) (ci := 0) (f := 7) (dK D_Searches_pricesForRoom_0 8 rfl) q_117 (hw_8_0 (hw_6_1 hc0)) (ltK rfl) (ltK rfl) rfl ?_
  refine vg_icmp_ge (pc := 17) (t := 65) (dK D_Searches_pricesForRoom_0 9 rfl) rfl ha4 (g_in _ _ _) (fun hc11 => ?_) (fun hc11 => ?_)
  · replace h := ifP h hc11
    obtain rfl := Option.some.inj h
    refine gL_weak (ls' := [(0, .ref c0), (1, V a1), (2, V a2), (3, V a3)]) (sbc 0 rfl (sbc 1 rfl (sbc 2 rfl (sbc 3 rfl sbn)))) ?_
    exact hx ha3
  · replace h := ifN h hc11
    refine g_iloadn (pc := 20) (i0 := 3) (j := 3) (dK D_Searches_pricesForRoom_0 10 rfl) rfl rfl ?_
    refine vg_iconst (pc := 21) (dK D_Searches_pricesForRoom_0 11 rfl) ?_
    refine vg_icmp_ge (pc := 22) (t := 65) (dK D_Searches_pricesForRoom_0 12 rfl) rfl ha3 (inRk rfl) (fun hc10 => ?_) (fun hc10 => ?_)
    · replace h := ifP h hc10
      obtain rfl := Option.some.inj h
      refine gL_weak (ls' := [(0, .ref c0), (1, V a1), (2, V a2), (3, V a3)]) (sbc 0 rfl (sbc 1 rfl (sbc 2 rfl (sbc 3 rfl sbn)))) ?_
      exact hx ha3
    · replace h := ifN h hc10
      refine g_iload (pc := 25) (j := 4) (dK D_Searches_pricesForRoom_0 13 rfl) rfl ?_
      refine g_iloadn (pc := 27) (i0 := 1) (j := 1) (dK D_Searches_pricesForRoom_0 14 rfl) rfl rfl ?_
      refine vg_icmp_eq (pc := 28) (t := 59) (dK D_Searches_pricesForRoom_0 15 rfl) rfl ha4 ha1 (fun hc9 => ?_) (fun hc9 => ?_)
      · replace h := ifP h hc9
        refine nmE h (fun v1 e_v1 h => ?_)
        refine vg_iinc (pc := 59) (j := 4) (a := a4) (z := 1) (ls2 := [(4, V v1), (0, .ref c0), (1, V a1), (2, V a2), (3, V a3)]) (dK D_Searches_pricesForRoom_0 30 rfl) rfl e_v1 (ltK rfl) rfl ?_
        refine g_goto (pc := 62) (tgt := 5) (dK D_Searches_pricesForRoom_0 31 rfl) rfl ?_
        refine gL_weak (ls' := [(0, .ref c0), (1, V a1), (2, V a2), (3, V a3), (4, V v1)]) (sbc 1 rfl (sbc 2 rfl (sbc 3 rfl (sbc 4 rfl (sbc 0 rfl sbn))))) ?_
        replace h := ih _ h
        exact h ha3 (Vn_in e_v1)
      · replace h := ifN h hc9
        refine g_aloadn (pc := 31) (i0 := 0) (j := 0) (dK D_Searches_pricesForRoom_0 16 rfl) rfl rfl ?_
        refine vg_getO (pc := 32) (ci := 6) (f := 1) (dK D_Searches_pricesForRoom_0 17 rfl) q_381 hc0 (ltK rfl) (ltK rfl) rfl ?_
        refine vg_getO (pc := 35) (ci := 8) (f := 0) (dK D_Searches_pricesForRoom_0 18 rfl) q_232 (hw_6_1 hc0) (ltK rfl) (ltK rfl) rfl ?_
        refine vg_getA (pc := 38) (ci := 0) (f := 6) (dK D_Searches_pricesForRoom_0 19 rfl) q_112 (hw_8_0 (hw_6_1 hc0)) (ltK rfl) (ltK rfl) rfl ?_
        refine g_iload (pc := 41) (j := 4) (dK D_Searches_pricesForRoom_0 20 rfl) rfl ?_
        refine gdE h (fun hi2 h => ?_)
        refine vg_iaload (pc := 43) (j := a4.toNat) (dK D_Searches_pricesForRoom_0 21 rfl) (hw_0_6 (hw_8_0 (hw_6_1 hc0))) rfl hi2 rfl ?_
        refine g_iloadn (pc := 44) (i0 := 2) (j := 2) (dK D_Searches_pricesForRoom_0 22 rfl) rfl rfl ?_
        refine vg_icmp_ne (pc := 45) (t := 59) (dK D_Searches_pricesForRoom_0 23 rfl) rfl (g_in _ _ _) ha2 (fun hc8 => ?_) (fun hc8 => ?_)
        · replace h := ifN h hc8
          refine nmE h (fun v3 e_v3 h => ?_)
          refine vg_iinc (pc := 59) (j := 4) (a := a4) (z := 1) (ls2 := [(4, V v3), (0, .ref c0), (1, V a1), (2, V a2), (3, V a3)]) (dK D_Searches_pricesForRoom_0 30 rfl) rfl e_v3 (ltK rfl) rfl ?_
          refine g_goto (pc := 62) (tgt := 5) (dK D_Searches_pricesForRoom_0 31 rfl) rfl ?_
          refine gL_weak (ls' := [(0, .ref c0), (1, V a1), (2, V a2), (3, V a3), (4, V v3)]) (sbc 1 rfl (sbc 2 rfl (sbc 3 rfl (sbc 4 rfl (sbc 0 rfl sbn))))) ?_
          replace h := ih _ h
          exact h ha3 (Vn_in e_v3)
        · replace h := ifP h hc8
          refine g_aloadn (pc := 48) (i0 := 0) (j := 0) (dK D_Searches_pricesForRoom_0 24 rfl) rfl rfl ?_
          refine vg_getA (pc := 49) (ci := 6) (f := 3) (dK D_Searches_pricesForRoom_0 25 rfl) q_383 hc0 (ltK rfl) (ltK rfl) rfl ?_
          refine g_iloadn (pc := 52) (i0 := 3) (j := 3) (dK D_Searches_pricesForRoom_0 26 rfl) rfl rfl ?_
          refine g_iload (pc := 53) (j := 4) (dK D_Searches_pricesForRoom_0 27 rfl) rfl ?_
          refine gdE h (fun hi4 h => ?_)
          refine nmE h (fun S5 e_S5 h => ?_)
          refine vg_iastore (pc := 55) (z := a4) (dK D_Searches_pricesForRoom_0 28 rfl) (hw_6_3 hc0) rfl hi4 rfl e_S5 ?_
          refine nmE h (fun v6 e_v6 h => ?_)
          refine vg_iinc (pc := 56) (j := 3) (a := a3) (z := 1) (ls2 := [(3, V v6), (0, .ref c0), (1, V a1), (2, V a2), (4, V a4)]) (dK D_Searches_pricesForRoom_0 29 rfl) rfl e_v6 (ltK rfl) rfl ?_
          refine nmE h (fun v7 e_v7 h => ?_)
          refine vg_iinc (pc := 59) (j := 4) (a := a4) (z := 1) (ls2 := [(4, V v7), (3, V v6), (0, .ref c0), (1, V a1), (2, V a2)]) (dK D_Searches_pricesForRoom_0 30 rfl) rfl e_v7 (ltK rfl) rfl ?_
          refine g_goto (pc := 62) (tgt := 5) (dK D_Searches_pricesForRoom_0 31 rfl) rfl ?_
          refine gL_weak (ls' := [(0, .ref c0), (1, V a1), (2, V a2), (3, V v6), (4, V v7)]) (sbc 2 rfl (sbc 3 rfl (sbc 4 rfl (sbc 1 rfl (sbc 0 rfl sbn))))) ?_
          replace h := ih _ h
          exact h (Vn_in e_v6) (Vn_in e_v7)
def lb_Searches_pricesForRoom_71 (c0 : Nat) (a1 : Int) (a2 : Int) (a3 : Int) (S : St) (go : Int × Int → Option (Int)) (a4 : Int) (a5 : Int) : Option (Int) := if (i_shl 1 a3) ≤ a5 then (some a4) else (bnO (fn_Searches_removedPrices c0 a1 a2 a3 a5 S) fun p13 => if p13 = (-1) then (nm (wr (a5 + 1)) fun v14 => go (a4, v14)) else (if a4 = (-1) then (nm (wr (a5 + 1)) fun v15 => go (p13, v15)) else (if a4 ≤ p13 then (nm (wr (a5 + 1)) fun v16 => go (a4, v16)) else (nm (wr (a5 + 1)) fun v17 => go (p13, v17)))))
def lo_Searches_pricesForRoom_71 (c0 : Nat) (a1 : Int) (a2 : Int) (a3 : Int) (S : St) : Nat → Int × Int → Option (Int) := lp fun go p => lb_Searches_pricesForRoom_71 c0 a1 a2 a3 S go p.1 p.2
theorem tl_Searches_pricesForRoom_71 {E : EV} {X : XT} {c0 : Nat} (hc0 : HC X 6 c0) {a1 : Int} (ha1 : inR a1) {a2 : Int} (ha2 : inR a2) {a3 : Int} (ha3 : inR a3) {S : St} {K : RK → PS → Prop} {q : Int} (hx : inR q → Go E M_Searches_pricesForRoom 0 0 119 [(4, V q)] [] (WX X S) 0 0 K) : ∀ n a, lo_Searches_pricesForRoom_71 c0 a1 a2 a3 S n a = some q → inR a.1 → inR a.2 → Go E M_Searches_pricesForRoom 0 0 71 [(0, .ref c0), (1, V a1), (2, V a2), (3, V a3), (4, V a.1), (5, V a.2)] [] (WX X S) 0 0 K := by
  refine lp_ind (P := fun a : Int × Int => inR a.1 → inR a.2 → Go E M_Searches_pricesForRoom 0 0 71 [(0, .ref c0), (1, V a1), (2, V a2), (3, V a3), (4, V a.1), (5, V a.2)] [] (WX X S) 0 0 K) (fun go ih a h => ?_)
  obtain ⟨a4, a5⟩ := a
  intro ha4 ha5
  show Go E M_Searches_pricesForRoom 0 0 71 [(0, .ref c0), (1, V a1), (2, V a2), (3, V a3), (4, V a4), (5, V a5)] [] (WX X S) 0 0 K
  replace h : lb_Searches_pricesForRoom_71 c0 a1 a2 a3 S go a4 a5 = some q := h
  unfold lb_Searches_pricesForRoom_71 at h
  refine g_iload (pc := 71) (j := 5) (dK D_Searches_pricesForRoom_0 36 rfl) rfl ?_
  refine vg_iconst (pc := 73) (dK D_Searches_pricesForRoom_0 37 rfl) ?_
  refine g_iloadn (pc := 74) (i0 := 3) (j := 3) (dK D_Searches_pricesForRoom_0 38 rfl) rfl rfl ?_
  refine vg_ishl (pc := 75) (dK D_Searches_pricesForRoom_0 39 rfl) ?_
  refine vg_icmp_ge (pc := 76) (t := 119) (dK D_Searches_pricesForRoom_0 40 rfl) rfl ha5 (toInt_in _) (fun hc21 => ?_) (fun hc21 => ?_)
  · replace h := ifP h hc21
    obtain rfl := Option.some.inj h
    refine gL_weak (ls' := [(4, V a4)]) (sbc 4 rfl sbn) ?_
    exact hx ha4
  · replace h := ifN h hc21
    refine g_aloadn (pc := 79) (i0 := 0) (j := 0) (dK D_Searches_pricesForRoom_0 41 rfl) rfl rfl ?_
    refine g_iloadn (pc := 80) (i0 := 1) (j := 1) (dK D_Searches_pricesForRoom_0 42 rfl) rfl rfl ?_
    refine g_iloadn (pc := 81) (i0 := 2) (j := 2) (dK D_Searches_pricesForRoom_0 43 rfl) rfl rfl ?_
    refine g_iloadn (pc := 82) (i0 := 3) (j := 3) (dK D_Searches_pricesForRoom_0 44 rfl) rfl rfl ?_
    refine g_iload (pc := 83) (j := 5) (dK D_Searches_pricesForRoom_0 45 rfl) rfl ?_
    refine bnE h (fun p13 e_p13 h => ?_)
    refine vg_cV (pc := 85) (As := [V a1, V a2, V a3, V a5]) (rest := []) (mc' := 0) (ms' := 0) (dK D_Searches_pricesForRoom_0 46 rfl) K_Searches_130 (fitK rfl) (ltK rfl) hc0 rfl (leK rfl) (leK rfl) (leK rfl) (tf_Searches_removedPrices hc0 ha1 ha2 ha3 ha5 e_p13) (kcI (fun h_p13 => ?_))
    refine g_istore (pc := 88) (ls2 := [(6, V p13), (0, .ref c0), (1, V a1), (2, V a2), (3, V a3), (4, V a4), (5, V a5)]) (dK D_Searches_pricesForRoom_0 47 rfl) (ltK rfl) rfl ?_
    refine g_iload (pc := 90) (j := 0) (dK D_Searches_pricesForRoom_0 48 rfl) rfl ?_
    refine vg_iconst (pc := 92) (dK D_Searches_pricesForRoom_0 49 rfl) ?_
    refine vg_icmp_eq (pc := 93) (t := 113) (dK D_Searches_pricesForRoom_1 0 rfl) rfl h_p13 (inRk rfl) (fun hc20 => ?_) (fun hc20 => ?_)
    · replace h := ifP h hc20
      refine nmE h (fun v14 e_v14 h => ?_)
      refine vg_iinc (pc := 113) (j := 6) (a := a5) (z := 1) (ls2 := [(5, V v14), (6, V p13), (0, .ref c0), (1, V a1), (2, V a2), (3, V a3), (4, V a4)]) (dK D_Searches_pricesForRoom_1 9 rfl) rfl e_v14 (ltK rfl) rfl ?_
      refine g_goto (pc := 116) (tgt := 71) (dK D_Searches_pricesForRoom_1 10 rfl) rfl ?_
      refine gL_weak (ls' := [(0, .ref c0), (1, V a1), (2, V a2), (3, V a3), (4, V a4), (5, V v14)]) (sbc 2 rfl (sbc 3 rfl (sbc 4 rfl (sbc 5 rfl (sbc 6 rfl (sbc 0 rfl sbn)))))) ?_
      replace h := ih _ h
      exact h ha4 (Vn_in e_v14)
    · replace h := ifN h hc20
      refine g_iload (pc := 96) (j := 5) (dK D_Searches_pricesForRoom_1 1 rfl) rfl ?_
      refine vg_iconst (pc := 98) (dK D_Searches_pricesForRoom_1 2 rfl) ?_
      refine vg_icmp_eq (pc := 99) (t := 109) (dK D_Searches_pricesForRoom_1 3 rfl) rfl ha4 (inRk rfl) (fun hc19 => ?_) (fun hc19 => ?_)
      · replace h := ifP h hc19
        refine g_iload (pc := 109) (j := 0) (dK D_Searches_pricesForRoom_1 7 rfl) rfl ?_
        refine g_istore (pc := 111) (ls2 := [(4, V p13), (6, V p13), (0, .ref c0), (1, V a1), (2, V a2), (3, V a3), (5, V a5)]) (dK D_Searches_pricesForRoom_1 8 rfl) (ltK rfl) rfl ?_
        refine nmE h (fun v15 e_v15 h => ?_)
        refine vg_iinc (pc := 113) (j := 6) (a := a5) (z := 1) (ls2 := [(5, V v15), (4, V p13), (6, V p13), (0, .ref c0), (1, V a1), (2, V a2), (3, V a3)]) (dK D_Searches_pricesForRoom_1 9 rfl) rfl e_v15 (ltK rfl) rfl ?_
        refine g_goto (pc := 116) (tgt := 71) (dK D_Searches_pricesForRoom_1 10 rfl) rfl ?_
        refine gL_weak (ls' := [(0, .ref c0), (1, V a1), (2, V a2), (3, V a3), (4, V p13), (5, V v15)]) (sbc 3 rfl (sbc 4 rfl (sbc 5 rfl (sbc 6 rfl (sbc 1 rfl (sbc 0 rfl sbn)))))) ?_
        replace h := ih _ h
        exact h h_p13 (Vn_in e_v15)
      · replace h := ifN h hc19
        refine g_iload (pc := 102) (j := 0) (dK D_Searches_pricesForRoom_1 4 rfl) rfl ?_
        refine g_iload (pc := 104) (j := 5) (dK D_Searches_pricesForRoom_1 5 rfl) rfl ?_
        refine vg_icmp_ge (pc := 106) (t := 113) (dK D_Searches_pricesForRoom_1 6 rfl) rfl h_p13 ha4 (fun hc18 => ?_) (fun hc18 => ?_)
        · replace h := ifP h hc18
          refine nmE h (fun v16 e_v16 h => ?_)
          refine vg_iinc (pc := 113) (j := 6) (a := a5) (z := 1) (ls2 := [(5, V v16), (6, V p13), (0, .ref c0), (1, V a1), (2, V a2), (3, V a3), (4, V a4)]) (dK D_Searches_pricesForRoom_1 9 rfl) rfl e_v16 (ltK rfl) rfl ?_
          refine g_goto (pc := 116) (tgt := 71) (dK D_Searches_pricesForRoom_1 10 rfl) rfl ?_
          refine gL_weak (ls' := [(0, .ref c0), (1, V a1), (2, V a2), (3, V a3), (4, V a4), (5, V v16)]) (sbc 2 rfl (sbc 3 rfl (sbc 4 rfl (sbc 5 rfl (sbc 6 rfl (sbc 0 rfl sbn)))))) ?_
          replace h := ih _ h
          exact h ha4 (Vn_in e_v16)
        · replace h := ifN h hc18
          refine g_iload (pc := 109) (j := 0) (dK D_Searches_pricesForRoom_1 7 rfl) rfl ?_
          refine g_istore (pc := 111) (ls2 := [(4, V p13), (6, V p13), (0, .ref c0), (1, V a1), (2, V a2), (3, V a3), (5, V a5)]) (dK D_Searches_pricesForRoom_1 8 rfl) (ltK rfl) rfl ?_
          refine nmE h (fun v17 e_v17 h => ?_)
          refine vg_iinc (pc := 113) (j := 6) (a := a5) (z := 1) (ls2 := [(5, V v17), (4, V p13), (6, V p13), (0, .ref c0), (1, V a1), (2, V a2), (3, V a3)]) (dK D_Searches_pricesForRoom_1 9 rfl) rfl e_v17 (ltK rfl) rfl ?_
          refine g_goto (pc := 116) (tgt := 71) (dK D_Searches_pricesForRoom_1 10 rfl) rfl ?_
          refine gL_weak (ls' := [(0, .ref c0), (1, V a1), (2, V a2), (3, V a3), (4, V p13), (5, V v17)]) (sbc 3 rfl (sbc 4 rfl (sbc 5 rfl (sbc 6 rfl (sbc 1 rfl (sbc 0 rfl sbn)))))) ?_
          replace h := ih _ h
          exact h h_p13 (Vn_in e_v17)
def fn_Searches_pricesForRoom (c0 : Nat) (a1 : Int) (a2 : Int) (S : St) : Option (Int × St) := bnO (lo_Searches_pricesForRoom_5 c0 a1 a2 FU (0, 0, S)) fun p12 => bnO (lo_Searches_pricesForRoom_71 c0 a1 a2 p12.1 p12.2 FU ((-1), 0)) fun p22 => some (p22, p12.2)
theorem tf_Searches_pricesForRoom {E : EV} {X : XT} {c0 : Nat} (hc0 : HC X 6 c0) {a1 : Int} (ha1 : inR a1) {a2 : Int} (ha2 : inR a2) {S : St} {q : Int × St} (h : fn_Searches_pricesForRoom c0 a1 a2 S = some q) : Ev E M_Searches_pricesForRoom [.ref c0, V a1, V a2] (WX X S) 0 0 (KI X q.1 q.2) := by
  refine Ev.of pn_Searches rfl (leK rfl) ?_
  show Go E M_Searches_pricesForRoom 0 0 0 [(0, .ref c0), (1, V a1), (2, V a2)] [] (WX X S) 0 0 (KI X q.1 q.2)
  unfold fn_Searches_pricesForRoom at h
  refine vg_iconst (pc := 0) (dK D_Searches_pricesForRoom_0 0 rfl) ?_
  refine g_istoren (pc := 1) (i0 := 3) (ls2 := [(3, V 0), (0, .ref c0), (1, V a1), (2, V a2)]) (dK D_Searches_pricesForRoom_0 1 rfl) rfl (ltK rfl) rfl ?_
  refine vg_iconst (pc := 2) (dK D_Searches_pricesForRoom_0 2 rfl) ?_
  refine g_istore (pc := 3) (ls2 := [(4, V 0), (3, V 0), (0, .ref c0), (1, V a1), (2, V a2)]) (dK D_Searches_pricesForRoom_0 3 rfl) (ltK rfl) rfl ?_
  refine bnE h (fun p12 e_p12 h => ?_)
  refine gL_weak (ls' := [(0, .ref c0), (1, V a1), (2, V a2), (3, V 0), (4, V 0)]) (sbc 2 rfl (sbc 3 rfl (sbc 4 rfl (sbc 1 rfl (sbc 0 rfl sbn))))) ?_
  refine tl_Searches_pricesForRoom_5 hc0 ha1 ha2 (fun hx3_p12 => ?_) FU (0, 0, S) e_p12 (inRk rfl) (inRk rfl)
  refine vg_iconst (pc := 65) (dK D_Searches_pricesForRoom_0 32 rfl) ?_
  refine g_istore (pc := 66) (ls2 := [(4, V (-1)), (0, .ref c0), (1, V a1), (2, V a2), (3, V p12.1)]) (dK D_Searches_pricesForRoom_0 33 rfl) (ltK rfl) rfl ?_
  refine vg_iconst (pc := 68) (dK D_Searches_pricesForRoom_0 34 rfl) ?_
  refine g_istore (pc := 69) (ls2 := [(5, V 0), (4, V (-1)), (0, .ref c0), (1, V a1), (2, V a2), (3, V p12.1)]) (dK D_Searches_pricesForRoom_0 35 rfl) (ltK rfl) rfl ?_
  refine bnE h (fun p22 e_p22 h => ?_)
  refine gL_weak (ls' := [(0, .ref c0), (1, V a1), (2, V a2), (3, V p12.1), (4, V (-1)), (5, V 0)]) (sbc 2 rfl (sbc 3 rfl (sbc 4 rfl (sbc 5 rfl (sbc 1 rfl (sbc 0 rfl sbn)))))) ?_
  refine tl_Searches_pricesForRoom_71 hc0 ha1 ha2 hx3_p12 (fun hx4_p22 => ?_) FU ((-1), 0) e_p22 (inRk rfl) (inRk rfl)
  refine g_iload (pc := 119) (j := 0) (dK D_Searches_pricesForRoom_1 11 rfl) rfl ?_
  exact vg_iretI (pc := 121) (r := p22) (dK D_Searches_pricesForRoom_1 12 rfl) rfl (leK rfl) (leK rfl) (fun _ => rfl) (by obtain rfl := Option.some.inj h; exact ⟨rfl, hx4_p22, rfl⟩)
def fn_Searches_evictedPrices (c0 : Nat) (a1 : Int) (a2 : Int) (S : St) : Option (Int × St) := bnO (fn_Plan_isUnfit (tgt c0 0) a1 a2 S) fun p1 => if p1 = true then (some ((-1), S)) else (if 0 ≤ a2 ∧ a2 < 65 then (if (g S (tgt (tgt c0 0) 6) a2.toNat) = (-1) then (bnO (fn_Searches_rivalPricesBeside c0 a1 a2 S) fun p4 => bnO (fn_Searches_pricesForRoom c0 a1 a2 S) fun p5 => if p4 = (-1) then (some ((-1), p5.2)) else (if p5.1 = (-1) then (some ((-1), p5.2)) else (some ((wr (p4 + p5.1)), p5.2)))) else (some ((-1), S))) else none)
theorem tf_Searches_evictedPrices {E : EV} {X : XT} {c0 : Nat} (hc0 : HC X 6 c0) {a1 : Int} (ha1 : inR a1) {a2 : Int} (ha2 : inR a2) {S : St} {q : Int × St} (h : fn_Searches_evictedPrices c0 a1 a2 S = some q) : Ev E M_Searches_evictedPrices [.ref c0, V a1, V a2] (WX X S) 0 0 (KI X q.1 q.2) := by
  refine Ev.of pn_Searches rfl (leK rfl) ?_
  show Go E M_Searches_evictedPrices 0 0 0 [(0, .ref c0), (1, V a1), (2, V a2)] [] (WX X S) 0 0 (KI X q.1 q.2)
  unfold fn_Searches_evictedPrices at h
  refine g_aloadn (pc := 0) (i0 := 0) (j := 0) (dK D_Searches_evictedPrices 0 rfl) rfl rfl ?_
  refine vg_getO (pc := 1) (ci := 6) (f := 0) (dK D_Searches_evictedPrices 1 rfl) q_379 hc0 (ltK rfl) (ltK rfl) rfl ?_
  refine g_iloadn (pc := 4) (i0 := 1) (j := 1) (dK D_Searches_evictedPrices 2 rfl) rfl rfl ?_
  refine g_iloadn (pc := 5) (i0 := 2) (j := 2) (dK D_Searches_evictedPrices 3 rfl) rfl rfl ?_
  refine bnE h (fun p1 e_p1 h => ?_)
  refine vg_cV (pc := 6) (As := [V a1, V a2]) (rest := []) (mc' := 0) (ms' := 0) (dK D_Searches_evictedPrices 4 rfl) K_Searches_112 (fitK rfl) (ltK rfl) (hw_6_0 hc0) rfl (leK rfl) (leK rfl) (leK rfl) (tf_Plan_isUnfit (hw_6_0 hc0) ha1 ha2 e_p1) (kcB ?_)
  refine vg_ifB_ne (pc := 9) (b := p1) (t := 25) (dK D_Searches_evictedPrices 5 rfl) rfl (fun hc2 => ?_) (fun hc2 => ?_)
  · replace h := ifP h hc2
    refine vg_iconst (pc := 25) (dK D_Searches_evictedPrices 13 rfl) ?_
    exact vg_iretI (pc := 26) (r := (-1)) (dK D_Searches_evictedPrices 14 rfl) rfl (leK rfl) (leK rfl) (fun _ => rfl) (by obtain rfl := Option.some.inj h; exact ⟨rfl, (inRk rfl), rfl⟩)
  · replace h := ifN h hc2
    refine g_aloadn (pc := 12) (i0 := 0) (j := 0) (dK D_Searches_evictedPrices 6 rfl) rfl rfl ?_
    refine vg_getO (pc := 13) (ci := 6) (f := 0) (dK D_Searches_evictedPrices 7 rfl) q_379 hc0 (ltK rfl) (ltK rfl) rfl ?_
    refine vg_getA (pc := 16) (ci := 4) (f := 6) (dK D_Searches_evictedPrices 8 rfl) q_321 (hw_6_0 hc0) (ltK rfl) (ltK rfl) rfl ?_
    refine g_iloadn (pc := 19) (i0 := 2) (j := 2) (dK D_Searches_evictedPrices 9 rfl) rfl rfl ?_
    refine gdE h (fun hi3 h => ?_)
    refine vg_iaload (pc := 20) (j := a2.toNat) (dK D_Searches_evictedPrices 10 rfl) (hw_4_6 (hw_6_0 hc0)) rfl hi3 rfl ?_
    refine vg_iconst (pc := 21) (dK D_Searches_evictedPrices 11 rfl) ?_
    refine vg_icmp_eq (pc := 22) (t := 27) (dK D_Searches_evictedPrices 12 rfl) rfl (g_in _ _ _) (inRk rfl) (fun hc8 => ?_) (fun hc8 => ?_)
    · replace h := ifP h hc8
      refine g_aloadn (pc := 27) (i0 := 0) (j := 0) (dK D_Searches_evictedPrices 15 rfl) rfl rfl ?_
      refine g_iloadn (pc := 28) (i0 := 1) (j := 1) (dK D_Searches_evictedPrices 16 rfl) rfl rfl ?_
      refine g_iloadn (pc := 29) (i0 := 2) (j := 2) (dK D_Searches_evictedPrices 17 rfl) rfl rfl ?_
      refine bnE h (fun p4 e_p4 h => ?_)
      refine vg_cV (pc := 30) (As := [V a1, V a2]) (rest := []) (mc' := 0) (ms' := 0) (dK D_Searches_evictedPrices 18 rfl) K_Searches_118 (fitK rfl) (ltK rfl) hc0 rfl (leK rfl) (leK rfl) (leK rfl) (tf_Searches_rivalPricesBeside hc0 ha1 ha2 e_p4) (kcI (fun h_p4 => ?_))
      refine g_istoren (pc := 33) (i0 := 3) (ls2 := [(3, V p4), (0, .ref c0), (1, V a1), (2, V a2)]) (dK D_Searches_evictedPrices 19 rfl) rfl (ltK rfl) rfl ?_
      refine g_aloadn (pc := 34) (i0 := 0) (j := 1) (dK D_Searches_evictedPrices 20 rfl) rfl rfl ?_
      refine g_iloadn (pc := 35) (i0 := 1) (j := 2) (dK D_Searches_evictedPrices 21 rfl) rfl rfl ?_
      refine g_iloadn (pc := 36) (i0 := 2) (j := 3) (dK D_Searches_evictedPrices 22 rfl) rfl rfl ?_
      refine bnE h (fun p5 e_p5 h => ?_)
      refine vg_cV (pc := 37) (As := [V a1, V a2]) (rest := []) (mc' := 0) (ms' := 0) (dK D_Searches_evictedPrices 23 rfl) K_Searches_121 (fitK rfl) (ltK rfl) hc0 rfl (leK rfl) (leK rfl) (leK rfl) (tf_Searches_pricesForRoom hc0 ha1 ha2 e_p5) (kcI (fun h_p5 => ?_))
      refine g_istore (pc := 40) (ls2 := [(4, V p5.1), (3, V p4), (0, .ref c0), (1, V a1), (2, V a2)]) (dK D_Searches_evictedPrices 24 rfl) (ltK rfl) rfl ?_
      refine g_iloadn (pc := 42) (i0 := 3) (j := 1) (dK D_Searches_evictedPrices 25 rfl) rfl rfl ?_
      refine vg_iconst (pc := 43) (dK D_Searches_evictedPrices 26 rfl) ?_
      refine vg_icmp_eq (pc := 44) (t := 53) (dK D_Searches_evictedPrices 27 rfl) rfl h_p4 (inRk rfl) (fun hc7 => ?_) (fun hc7 => ?_)
      · replace h := ifP h hc7
        refine vg_iconst (pc := 53) (dK D_Searches_evictedPrices 31 rfl) ?_
        refine g_goto (pc := 54) (tgt := 61) (dK D_Searches_evictedPrices 32 rfl) rfl ?_
        exact vg_iretI (pc := 61) (r := (-1)) (dK D_Searches_evictedPrices 36 rfl) rfl (leK rfl) (leK rfl) (fun _ => rfl) (by obtain rfl := Option.some.inj h; exact ⟨rfl, (inRk rfl), rfl⟩)
      · replace h := ifN h hc7
        refine g_iload (pc := 47) (j := 0) (dK D_Searches_evictedPrices 28 rfl) rfl ?_
        refine vg_iconst (pc := 49) (dK D_Searches_evictedPrices 29 rfl) ?_
        refine vg_icmp_ne (pc := 50) (t := 57) (dK D_Searches_evictedPrices 30 rfl) rfl h_p5 (inRk rfl) (fun hc6 => ?_) (fun hc6 => ?_)
        · replace h := ifN h hc6
          refine g_iloadn (pc := 57) (i0 := 3) (j := 1) (dK D_Searches_evictedPrices 33 rfl) rfl rfl ?_
          refine g_iload (pc := 58) (j := 0) (dK D_Searches_evictedPrices 34 rfl) rfl ?_
          refine vg_iadd (pc := 60) (dK D_Searches_evictedPrices 35 rfl) ?_
          refine gtop (x := (wr (p4 + p5.1))) rfl ?_
          exact vg_iretI (pc := 61) (r := (wr (p4 + p5.1))) (dK D_Searches_evictedPrices 36 rfl) rfl (leK rfl) (leK rfl) (fun _ => rfl) (by obtain rfl := Option.some.inj h; exact ⟨rfl, (wr_in _), rfl⟩)
        · replace h := ifP h hc6
          refine vg_iconst (pc := 53) (dK D_Searches_evictedPrices 31 rfl) ?_
          refine g_goto (pc := 54) (tgt := 61) (dK D_Searches_evictedPrices 32 rfl) rfl ?_
          exact vg_iretI (pc := 61) (r := (-1)) (dK D_Searches_evictedPrices 36 rfl) rfl (leK rfl) (leK rfl) (fun _ => rfl) (by obtain rfl := Option.some.inj h; exact ⟨rfl, (inRk rfl), rfl⟩)
    · replace h := ifN h hc8
      refine vg_iconst (pc := 25) (dK D_Searches_evictedPrices 13 rfl) ?_
      exact vg_iretI (pc := 26) (r := (-1)) (dK D_Searches_evictedPrices 14 rfl) rfl (leK rfl) (leK rfl) (fun _ => rfl) (by obtain rfl := Option.some.inj h; exact ⟨rfl, (inRk rfl), rfl⟩)
def fn_FP_eviction (c0 : Nat) (a1 : Int) (a2 : Int) (S : St) : Option (Nat × Int × St) := bnO (fn_FP_needAd c0 a1 S) fun p1 => if p1 = 0 then (bnO (fn_FP_needPage c0 a2 S) fun p2 => if p2 = 0 then (bnO (fn_Searches_evictedPrices (tgt c0 2) a1 a2 S) fun p3 => some (0, p3.1, p3.2)) else (some (p2, 0, S))) else (some (p1, 0, S))
theorem tf_FP_eviction {E : EV} {X : XT} (hfl : X.2.2.2 = false) {c0 : Nat} (hc0 : HC X 10 c0) {a1 : Int} (ha1 : inR a1) {a2 : Int} (ha2 : inR a2) {S : St} {q : Nat × Int × St} (h : fn_FP_eviction c0 a1 a2 S = some q) : Ev E M_FP_eviction [.ref c0, V a1, V a2] (WX X S) 2 12 (KT X q.1 q.2.2 (KI X q.2.1 q.2.2)) := by
  refine Ev.of pn_FP rfl (leK rfl) ?_
  show Go E M_FP_eviction 2 12 0 [(0, .ref c0), (1, V a1), (2, V a2)] [] (WX X S) 0 0 (KT X q.1 q.2.2 (KI X q.2.1 q.2.2))
  unfold fn_FP_eviction at h
  refine g_aloadn (pc := 0) (i0 := 0) (j := 0) (dK D_FP_eviction 0 rfl) rfl rfl ?_
  refine g_iloadn (pc := 1) (i0 := 1) (j := 1) (dK D_FP_eviction 1 rfl) rfl rfl ?_
  refine bnE h (fun p1 e_p1 h => ?_)
  refine vg_cV (pc := 2) (As := [V a1]) (rest := []) (mc' := 1) (ms' := 6) (dK D_FP_eviction 2 rfl) K_FP_162 (fitK rfl) (ltK rfl) hc0 rfl (leK rfl) (leK rfl) (leK rfl) (tf_FP_needAd hfl hc0 ha1 e_p1) (kcT hfl (fun he5 => kcU ?_) (fun he5 => ⟨rfl, ?_⟩))
  · replace h := ifP h he5
    refine g_aloadn (pc := 5) (i0 := 0) (j := 0) (dK D_FP_eviction 3 rfl) rfl rfl ?_
    refine g_iloadn (pc := 6) (i0 := 2) (j := 2) (dK D_FP_eviction 4 rfl) rfl rfl ?_
    refine bnE h (fun p2 e_p2 h => ?_)
    refine vg_cV (pc := 7) (As := [V a2]) (rest := []) (mc' := 1) (ms' := 6) (dK D_FP_eviction 5 rfl) K_FP_204 (fitK rfl) (ltK rfl) hc0 rfl (leK rfl) (leK rfl) (leK rfl) (tf_FP_needPage hfl hc0 ha2 e_p2) (kcT hfl (fun he4 => kcU ?_) (fun he4 => ⟨rfl, ?_⟩))
    · replace h := ifP h he4
      refine g_aloadn (pc := 10) (i0 := 0) (j := 0) (dK D_FP_eviction 6 rfl) rfl rfl ?_
      refine vg_getO (pc := 11) (ci := 10) (f := 2) (dK D_FP_eviction 7 rfl) q_435 hc0 (ltK rfl) (ltK rfl) rfl ?_
      refine g_iloadn (pc := 14) (i0 := 1) (j := 1) (dK D_FP_eviction 8 rfl) rfl rfl ?_
      refine g_iloadn (pc := 15) (i0 := 2) (j := 2) (dK D_FP_eviction 9 rfl) rfl rfl ?_
      refine bnE h (fun p3 e_p3 h => ?_)
      refine vg_cV (pc := 16) (As := [V a1, V a2]) (rest := []) (mc' := 0) (ms' := 0) (dK D_FP_eviction 10 rfl) K_FP_295 (fitK rfl) (ltK rfl) (hw_10_2 hc0) rfl (leK rfl) (leK rfl) (leK rfl) (tf_Searches_evictedPrices (hw_10_2 hc0) ha1 ha2 e_p3) (kcI (fun h_p3 => ?_))
      exact vg_iretI (pc := 19) (r := p3.1) (dK D_FP_eviction 11 rfl) rfl (leK rfl) (leK rfl) (xf hfl) (by obtain rfl := Option.some.inj h; exact KT_ok ⟨rfl, h_p3, rfl⟩)
    · replace h := ifN h he4
      obtain rfl := Option.some.inj h
      exact KT_thr he4
  · replace h := ifN h he5
    obtain rfl := Option.some.inj h
    exact KT_thr he5
def lb_Searches_cheapestFor_7 (c0 : Nat) (a1 : Int) (go : Int × Int × Int × St → Option (Int × St)) (a2 : Int) (a3 : Int) (a4 : Int) (S : St) : Option (Int × St) := if (g S (tgt c0 0) 1) < a4 then (some (a2, S)) else (bnO (fn_Searches_evictedPrices c0 a1 a4 S) fun p1 => if p1.1 = (-1) then (nm (wr (a4 + 1)) fun v2 => go (a2, a3, v2, p1.2)) else (if a2 = (-1) then (nm (wr (a4 + 1)) fun v3 => go (a4, p1.1, v3, p1.2)) else (if a3 ≤ p1.1 then (nm (wr (a4 + 1)) fun v4 => go (a2, a3, v4, p1.2)) else (nm (wr (a4 + 1)) fun v5 => go (a4, p1.1, v5, p1.2)))))
def lo_Searches_cheapestFor_7 (c0 : Nat) (a1 : Int) : Nat → Int × Int × Int × St → Option (Int × St) := lp fun go p => lb_Searches_cheapestFor_7 c0 a1 go p.1 p.2.1 p.2.2.1 p.2.2.2
theorem tl_Searches_cheapestFor_7 {E : EV} {X : XT} {c0 : Nat} (hc0 : HC X 6 c0) {a1 : Int} (ha1 : inR a1) {K : RK → PS → Prop} {q : Int × St} (hx : inR q.1 → Go E M_Searches_cheapestFor 0 0 57 [(2, V q.1)] [] (WX X q.2) 0 0 K) : ∀ n a, lo_Searches_cheapestFor_7 c0 a1 n a = some q → inR a.1 → inR a.2.1 → inR a.2.2.1 → Go E M_Searches_cheapestFor 0 0 7 [(0, .ref c0), (1, V a1), (2, V a.1), (3, V a.2.1), (4, V a.2.2.1)] [] (WX X a.2.2.2) 0 0 K := by
  refine lp_ind (P := fun a : Int × Int × Int × St => inR a.1 → inR a.2.1 → inR a.2.2.1 → Go E M_Searches_cheapestFor 0 0 7 [(0, .ref c0), (1, V a1), (2, V a.1), (3, V a.2.1), (4, V a.2.2.1)] [] (WX X a.2.2.2) 0 0 K) (fun go ih a h => ?_)
  obtain ⟨a2, a3, a4, S⟩ := a
  intro ha2 ha3 ha4
  show Go E M_Searches_cheapestFor 0 0 7 [(0, .ref c0), (1, V a1), (2, V a2), (3, V a3), (4, V a4)] [] (WX X S) 0 0 K
  replace h : lb_Searches_cheapestFor_7 c0 a1 go a2 a3 a4 S = some q := h
  unfold lb_Searches_cheapestFor_7 at h
  refine g_iload (pc := 7) (j := 4) (dK D_Searches_cheapestFor 6 rfl) rfl ?_
  refine g_aloadn (pc := 9) (i0 := 0) (j := 0) (dK D_Searches_cheapestFor 7 rfl) rfl rfl ?_
  refine vg_getO (pc := 10) (ci := 6) (f := 0) (dK D_Searches_cheapestFor 8 rfl) q_379 hc0 (ltK rfl) (ltK rfl) rfl ?_
  refine vg_getI (pc := 13) (ci := 4) (f := 1) (dK D_Searches_cheapestFor 9 rfl) q_306 (hw_6_0 hc0) (ltK rfl) (ltK rfl) rfl ?_
  refine vg_icmp_gt (pc := 16) (t := 57) (dK D_Searches_cheapestFor 10 rfl) rfl ha4 (g_in _ _ _) (fun hc9 => ?_) (fun hc9 => ?_)
  · replace h := ifP h hc9
    obtain rfl := Option.some.inj h
    refine gL_weak (ls' := [(2, V a2)]) (sbc 2 rfl sbn) ?_
    exact hx ha2
  · replace h := ifN h hc9
    refine g_aloadn (pc := 19) (i0 := 0) (j := 0) (dK D_Searches_cheapestFor 11 rfl) rfl rfl ?_
    refine g_iloadn (pc := 20) (i0 := 1) (j := 1) (dK D_Searches_cheapestFor 12 rfl) rfl rfl ?_
    refine g_iload (pc := 21) (j := 4) (dK D_Searches_cheapestFor 13 rfl) rfl ?_
    refine bnE h (fun p1 e_p1 h => ?_)
    refine vg_cV (pc := 23) (As := [V a1, V a4]) (rest := []) (mc' := 0) (ms' := 0) (dK D_Searches_cheapestFor 14 rfl) K_Searches_137 (fitK rfl) (ltK rfl) hc0 rfl (leK rfl) (leK rfl) (leK rfl) (tf_Searches_evictedPrices hc0 ha1 ha4 e_p1) (kcI (fun h_p1 => ?_))
    refine g_istore (pc := 26) (ls2 := [(5, V p1.1), (0, .ref c0), (1, V a1), (2, V a2), (3, V a3), (4, V a4)]) (dK D_Searches_cheapestFor 15 rfl) (ltK rfl) rfl ?_
    refine g_iload (pc := 28) (j := 0) (dK D_Searches_cheapestFor 16 rfl) rfl ?_
    refine vg_iconst (pc := 30) (dK D_Searches_cheapestFor 17 rfl) ?_
    refine vg_icmp_eq (pc := 31) (t := 51) (dK D_Searches_cheapestFor 18 rfl) rfl h_p1 (inRk rfl) (fun hc8 => ?_) (fun hc8 => ?_)
    · replace h := ifP h hc8
      refine nmE h (fun v2 e_v2 h => ?_)
      refine vg_iinc (pc := 51) (j := 5) (a := a4) (z := 1) (ls2 := [(4, V v2), (5, V p1.1), (0, .ref c0), (1, V a1), (2, V a2), (3, V a3)]) (dK D_Searches_cheapestFor 29 rfl) rfl e_v2 (ltK rfl) rfl ?_
      refine g_goto (pc := 54) (tgt := 7) (dK D_Searches_cheapestFor 30 rfl) rfl ?_
      refine gL_weak (ls' := [(0, .ref c0), (1, V a1), (2, V a2), (3, V a3), (4, V v2)]) (sbc 2 rfl (sbc 3 rfl (sbc 4 rfl (sbc 5 rfl (sbc 0 rfl sbn))))) ?_
      replace h := ih _ h
      exact h ha2 ha3 (Vn_in e_v2)
    · replace h := ifN h hc8
      refine g_iloadn (pc := 34) (i0 := 2) (j := 3) (dK D_Searches_cheapestFor 19 rfl) rfl rfl ?_
      refine vg_iconst (pc := 35) (dK D_Searches_cheapestFor 20 rfl) ?_
      refine vg_icmp_eq (pc := 36) (t := 45) (dK D_Searches_cheapestFor 21 rfl) rfl ha2 (inRk rfl) (fun hc7 => ?_) (fun hc7 => ?_)
      · replace h := ifP h hc7
        refine g_iload (pc := 45) (j := 5) (dK D_Searches_cheapestFor 25 rfl) rfl ?_
        refine g_istoren (pc := 47) (i0 := 2) (ls2 := [(2, V a4), (5, V p1.1), (0, .ref c0), (1, V a1), (3, V a3), (4, V a4)]) (dK D_Searches_cheapestFor 26 rfl) rfl (ltK rfl) rfl ?_
        refine g_iload (pc := 48) (j := 1) (dK D_Searches_cheapestFor 27 rfl) rfl ?_
        refine g_istoren (pc := 50) (i0 := 3) (ls2 := [(3, V p1.1), (2, V a4), (5, V p1.1), (0, .ref c0), (1, V a1), (4, V a4)]) (dK D_Searches_cheapestFor 28 rfl) rfl (ltK rfl) rfl ?_
        refine nmE h (fun v3 e_v3 h => ?_)
        refine vg_iinc (pc := 51) (j := 5) (a := a4) (z := 1) (ls2 := [(4, V v3), (3, V p1.1), (2, V a4), (5, V p1.1), (0, .ref c0), (1, V a1)]) (dK D_Searches_cheapestFor 29 rfl) rfl e_v3 (ltK rfl) rfl ?_
        refine g_goto (pc := 54) (tgt := 7) (dK D_Searches_cheapestFor 30 rfl) rfl ?_
        refine gL_weak (ls' := [(0, .ref c0), (1, V a1), (2, V a4), (3, V p1.1), (4, V v3)]) (sbc 4 rfl (sbc 5 rfl (sbc 2 rfl (sbc 1 rfl (sbc 0 rfl sbn))))) ?_
        replace h := ih _ h
        exact h ha4 h_p1 (Vn_in e_v3)
      · replace h := ifN h hc7
        refine g_iload (pc := 39) (j := 0) (dK D_Searches_cheapestFor 22 rfl) rfl ?_
        refine g_iloadn (pc := 41) (i0 := 3) (j := 4) (dK D_Searches_cheapestFor 23 rfl) rfl rfl ?_
        refine vg_icmp_ge (pc := 42) (t := 51) (dK D_Searches_cheapestFor 24 rfl) rfl h_p1 ha3 (fun hc6 => ?_) (fun hc6 => ?_)
        · replace h := ifP h hc6
          refine nmE h (fun v4 e_v4 h => ?_)
          refine vg_iinc (pc := 51) (j := 5) (a := a4) (z := 1) (ls2 := [(4, V v4), (5, V p1.1), (0, .ref c0), (1, V a1), (2, V a2), (3, V a3)]) (dK D_Searches_cheapestFor 29 rfl) rfl e_v4 (ltK rfl) rfl ?_
          refine g_goto (pc := 54) (tgt := 7) (dK D_Searches_cheapestFor 30 rfl) rfl ?_
          refine gL_weak (ls' := [(0, .ref c0), (1, V a1), (2, V a2), (3, V a3), (4, V v4)]) (sbc 2 rfl (sbc 3 rfl (sbc 4 rfl (sbc 5 rfl (sbc 0 rfl sbn))))) ?_
          replace h := ih _ h
          exact h ha2 ha3 (Vn_in e_v4)
        · replace h := ifN h hc6
          refine g_iload (pc := 45) (j := 5) (dK D_Searches_cheapestFor 25 rfl) rfl ?_
          refine g_istoren (pc := 47) (i0 := 2) (ls2 := [(2, V a4), (5, V p1.1), (0, .ref c0), (1, V a1), (3, V a3), (4, V a4)]) (dK D_Searches_cheapestFor 26 rfl) rfl (ltK rfl) rfl ?_
          refine g_iload (pc := 48) (j := 1) (dK D_Searches_cheapestFor 27 rfl) rfl ?_
          refine g_istoren (pc := 50) (i0 := 3) (ls2 := [(3, V p1.1), (2, V a4), (5, V p1.1), (0, .ref c0), (1, V a1), (4, V a4)]) (dK D_Searches_cheapestFor 28 rfl) rfl (ltK rfl) rfl ?_
          refine nmE h (fun v5 e_v5 h => ?_)
          refine vg_iinc (pc := 51) (j := 5) (a := a4) (z := 1) (ls2 := [(4, V v5), (3, V p1.1), (2, V a4), (5, V p1.1), (0, .ref c0), (1, V a1)]) (dK D_Searches_cheapestFor 29 rfl) rfl e_v5 (ltK rfl) rfl ?_
          refine g_goto (pc := 54) (tgt := 7) (dK D_Searches_cheapestFor 30 rfl) rfl ?_
          refine gL_weak (ls' := [(0, .ref c0), (1, V a1), (2, V a4), (3, V p1.1), (4, V v5)]) (sbc 4 rfl (sbc 5 rfl (sbc 2 rfl (sbc 1 rfl (sbc 0 rfl sbn))))) ?_
          replace h := ih _ h
          exact h ha4 h_p1 (Vn_in e_v5)
def fn_Searches_cheapestFor (c0 : Nat) (a1 : Int) (S : St) : Option (Int × St) := bnO (lo_Searches_cheapestFor_7 c0 a1 FU ((-1), 0, 1, S)) fun p10 => some (p10.1, p10.2)
theorem tf_Searches_cheapestFor {E : EV} {X : XT} {c0 : Nat} (hc0 : HC X 6 c0) {a1 : Int} (ha1 : inR a1) {S : St} {q : Int × St} (h : fn_Searches_cheapestFor c0 a1 S = some q) : Ev E M_Searches_cheapestFor [.ref c0, V a1] (WX X S) 0 0 (KI X q.1 q.2) := by
  refine Ev.of pn_Searches rfl (leK rfl) ?_
  show Go E M_Searches_cheapestFor 0 0 0 [(0, .ref c0), (1, V a1)] [] (WX X S) 0 0 (KI X q.1 q.2)
  unfold fn_Searches_cheapestFor at h
  refine vg_iconst (pc := 0) (dK D_Searches_cheapestFor 0 rfl) ?_
  refine g_istoren (pc := 1) (i0 := 2) (ls2 := [(2, V (-1)), (0, .ref c0), (1, V a1)]) (dK D_Searches_cheapestFor 1 rfl) rfl (ltK rfl) rfl ?_
  refine vg_iconst (pc := 2) (dK D_Searches_cheapestFor 2 rfl) ?_
  refine g_istoren (pc := 3) (i0 := 3) (ls2 := [(3, V 0), (2, V (-1)), (0, .ref c0), (1, V a1)]) (dK D_Searches_cheapestFor 3 rfl) rfl (ltK rfl) rfl ?_
  refine vg_iconst (pc := 4) (dK D_Searches_cheapestFor 4 rfl) ?_
  refine g_istore (pc := 5) (ls2 := [(4, V 1), (3, V 0), (2, V (-1)), (0, .ref c0), (1, V a1)]) (dK D_Searches_cheapestFor 5 rfl) (ltK rfl) rfl ?_
  refine bnE h (fun p10 e_p10 h => ?_)
  refine gL_weak (ls' := [(0, .ref c0), (1, V a1), (2, V (-1)), (3, V 0), (4, V 1)]) (sbc 3 rfl (sbc 4 rfl (sbc 2 rfl (sbc 1 rfl (sbc 0 rfl sbn))))) ?_
  refine tl_Searches_cheapestFor_7 hc0 ha1 (fun hx2_p10 => ?_) FU ((-1), 0, 1, S) e_p10 (inRk rfl) (inRk rfl) (inRk rfl)
  refine g_iloadn (pc := 57) (i0 := 2) (j := 0) (dK D_Searches_cheapestFor 31 rfl) rfl rfl ?_
  exact vg_iretI (pc := 58) (r := p10.1) (dK D_Searches_cheapestFor 32 rfl) rfl (leK rfl) (leK rfl) (fun _ => rfl) (by obtain rfl := Option.some.inj h; exact ⟨rfl, hx2_p10, rfl⟩)
def fn_FP_cheapestPage (c0 : Nat) (a1 : Int) (S : St) : Option (Nat × Int × St) := bnO (fn_FP_needAd c0 a1 S) fun p1 => if p1 = 0 then (bnO (fn_Searches_cheapestFor (tgt c0 2) a1 S) fun p2 => some (0, p2.1, p2.2)) else (some (p1, 0, S))
theorem tf_FP_cheapestPage {E : EV} {X : XT} (hfl : X.2.2.2 = false) {c0 : Nat} (hc0 : HC X 10 c0) {a1 : Int} (ha1 : inR a1) {S : St} {q : Nat × Int × St} (h : fn_FP_cheapestPage c0 a1 S = some q) : Ev E M_FP_cheapestPage [.ref c0, V a1] (WX X S) 1 6 (KT X q.1 q.2.2 (KI X q.2.1 q.2.2)) := by
  refine Ev.of pn_FP rfl (leK rfl) ?_
  show Go E M_FP_cheapestPage 1 6 0 [(0, .ref c0), (1, V a1)] [] (WX X S) 0 0 (KT X q.1 q.2.2 (KI X q.2.1 q.2.2))
  unfold fn_FP_cheapestPage at h
  refine g_aloadn (pc := 0) (i0 := 0) (j := 0) (dK D_FP_cheapestPage 0 rfl) rfl rfl ?_
  refine g_iloadn (pc := 1) (i0 := 1) (j := 1) (dK D_FP_cheapestPage 1 rfl) rfl rfl ?_
  refine bnE h (fun p1 e_p1 h => ?_)
  refine vg_cV (pc := 2) (As := [V a1]) (rest := []) (mc' := 1) (ms' := 6) (dK D_FP_cheapestPage 2 rfl) K_FP_162 (fitK rfl) (ltK rfl) hc0 rfl (leK rfl) (leK rfl) (leK rfl) (tf_FP_needAd hfl hc0 ha1 e_p1) (kcT hfl (fun he3 => kcU ?_) (fun he3 => ⟨rfl, ?_⟩))
  · replace h := ifP h he3
    refine g_aloadn (pc := 5) (i0 := 0) (j := 0) (dK D_FP_cheapestPage 3 rfl) rfl rfl ?_
    refine vg_getO (pc := 6) (ci := 10) (f := 2) (dK D_FP_cheapestPage 4 rfl) q_435 hc0 (ltK rfl) (ltK rfl) rfl ?_
    refine g_iloadn (pc := 9) (i0 := 1) (j := 1) (dK D_FP_cheapestPage 5 rfl) rfl rfl ?_
    refine bnE h (fun p2 e_p2 h => ?_)
    refine vg_cV (pc := 10) (As := [V a1]) (rest := []) (mc' := 0) (ms' := 0) (dK D_FP_cheapestPage 6 rfl) K_FP_298 (fitK rfl) (ltK rfl) (hw_10_2 hc0) rfl (leK rfl) (leK rfl) (leK rfl) (tf_Searches_cheapestFor (hw_10_2 hc0) ha1 e_p2) (kcI (fun h_p2 => ?_))
    exact vg_iretI (pc := 13) (r := p2.1) (dK D_FP_cheapestPage 7 rfl) rfl (leK rfl) (leK rfl) (xf hfl) (by obtain rfl := Option.some.inj h; exact KT_ok ⟨rfl, h_p2, rfl⟩)
  · replace h := ifN h he3
    obtain rfl := Option.some.inj h
    exact KT_thr he3
def lb_Plan_firstFor_6 (c0 : Nat) (a1 : Int) (S : St) (go : Int → Option ((Int) ⊕ (Unit))) (a3 : Int) : Option ((Int) ⊕ (Unit)) := if (g S c0 1) < a3 then (some (.inr ())) else (bnO (fn_Plan_adReason c0 a1 a3 S) fun p1 => if p1 = 0 then (some (.inl a3)) else (nm (wr (a3 + 1)) fun v2 => go v2))
def lo_Plan_firstFor_6 (c0 : Nat) (a1 : Int) (S : St) : Nat → Int → Option ((Int) ⊕ (Unit)) := lp fun go p => lb_Plan_firstFor_6 c0 a1 S go p
theorem tl_Plan_firstFor_6 {E : EV} {X : XT} {c0 : Nat} (hc0 : HC X 4 c0) {a1 : Int} (ha1 : inR a1) {S : St} {K : RK → PS → Prop} {q : (Int) ⊕ (Unit)} (hx : ∀ p, q = .inr p → Go E M_Plan_firstFor 0 0 31 [] [] (WX X S) 0 0 K) (hr : ∀ p, q = .inl p → inR p → K (.inl (some (V p))) (WX X S)) : ∀ n a, lo_Plan_firstFor_6 c0 a1 S n a = some q → inR a → Go E M_Plan_firstFor 0 0 6 [(0, .ref c0), (1, V a1), (3, V a)] [] (WX X S) 0 0 K := by
  refine lp_ind (P := fun a : Int => inR a → Go E M_Plan_firstFor 0 0 6 [(0, .ref c0), (1, V a1), (3, V a)] [] (WX X S) 0 0 K) (fun go ih a3 h => ?_)
  intro ha3
  show Go E M_Plan_firstFor 0 0 6 [(0, .ref c0), (1, V a1), (3, V a3)] [] (WX X S) 0 0 K
  replace h : lb_Plan_firstFor_6 c0 a1 S go a3 = some q := h
  unfold lb_Plan_firstFor_6 at h
  refine g_iloadn (pc := 6) (i0 := 3) (j := 2) (dK D_Plan_firstFor 4 rfl) rfl rfl ?_
  refine g_aloadn (pc := 7) (i0 := 0) (j := 0) (dK D_Plan_firstFor 5 rfl) rfl rfl ?_
  refine vg_getI (pc := 8) (ci := 4) (f := 1) (dK D_Plan_firstFor 6 rfl) q_305 hc0 (ltK rfl) (ltK rfl) rfl ?_
  refine vg_icmp_gt (pc := 11) (t := 31) (dK D_Plan_firstFor 7 rfl) rfl ha3 (g_in _ _ _) (fun hc4 => ?_) (fun hc4 => ?_)
  · replace h := ifP h hc4
    refine gL_weak (ls' := []) sbn ?_
    exact hx _ (Option.some.inj h).symm 
  · replace h := ifN h hc4
    refine g_aloadn (pc := 14) (i0 := 0) (j := 0) (dK D_Plan_firstFor 8 rfl) rfl rfl ?_
    refine g_iloadn (pc := 15) (i0 := 1) (j := 1) (dK D_Plan_firstFor 9 rfl) rfl rfl ?_
    refine g_iloadn (pc := 16) (i0 := 3) (j := 2) (dK D_Plan_firstFor 10 rfl) rfl rfl ?_
    refine bnE h (fun p1 e_p1 h => ?_)
    refine vg_cV (pc := 17) (As := [V a1, V a3]) (rest := []) (mc' := 0) (ms' := 0) (dK D_Plan_firstFor 11 rfl) K_Plan_210 (fitK rfl) (ltK rfl) hc0 rfl (leK rfl) (leK rfl) (leK rfl) (tf_Plan_adReason hc0 ha1 ha3 e_p1) (kcI (fun h_p1 => ?_))
    refine vg_if_ne (pc := 20) (t := 25) (dK D_Plan_firstFor 12 rfl) rfl h_p1 (fun hc3 => ?_) (fun hc3 => ?_)
    · replace h := ifN h hc3
      refine nmE h (fun v2 e_v2 h => ?_)
      refine vg_iinc (pc := 25) (j := 2) (a := a3) (z := 1) (ls2 := [(3, V v2), (0, .ref c0), (1, V a1)]) (dK D_Plan_firstFor 15 rfl) rfl e_v2 (ltK rfl) rfl ?_
      refine g_goto (pc := 28) (tgt := 6) (dK D_Plan_firstFor 16 rfl) rfl ?_
      refine gL_weak (ls' := [(0, .ref c0), (1, V a1), (3, V v2)]) (sbc 1 rfl (sbc 2 rfl (sbc 0 rfl sbn))) ?_
      replace h := ih _ h
      exact h (Vn_in e_v2)
    · replace h := ifP h hc3
      refine g_iloadn (pc := 23) (i0 := 3) (j := 2) (dK D_Plan_firstFor 13 rfl) rfl rfl ?_
      exact vg_iretI (pc := 24) (r := a3) (dK D_Plan_firstFor 14 rfl) rfl (leK rfl) (leK rfl) (fun _ => rfl) (hr _ (Option.some.inj h).symm ha3)
def fn_Plan_firstFor (c0 : Nat) (a1 : Int) (a2 : Int) (S : St) : Option (Int) := bnS (lo_Plan_firstFor_6 c0 a1 S FU (i_max a2 1)) (fun p6 => some p6) fun p5 => some (-1)
theorem tf_Plan_firstFor {E : EV} {X : XT} {c0 : Nat} (hc0 : HC X 4 c0) {a1 : Int} (ha1 : inR a1) {a2 : Int} (ha2 : inR a2) {S : St} {q : Int} (h : fn_Plan_firstFor c0 a1 a2 S = some q) : Ev E M_Plan_firstFor [.ref c0, V a1, V a2] (WX X S) 0 0 (KI X q S) := by
  refine Ev.of pn_Plan rfl (leK rfl) ?_
  show Go E M_Plan_firstFor 0 0 0 [(0, .ref c0), (1, V a1), (2, V a2)] [] (WX X S) 0 0 (KI X q S)
  unfold fn_Plan_firstFor at h
  refine g_iloadn (pc := 0) (i0 := 2) (j := 2) (dK D_Plan_firstFor 0 rfl) rfl rfl ?_
  refine vg_iconst (pc := 1) (dK D_Plan_firstFor 1 rfl) ?_
  refine vg_mmax (pc := 2) (dK D_Plan_firstFor 2 rfl) q_1723 (leK rfl) (leK rfl) (leK rfl) (leK rfl) ha2 (inRk rfl) ?_
  refine g_istoren (pc := 5) (i0 := 3) (ls2 := [(3, V (i_max a2 1)), (0, .ref c0), (1, V a1), (2, V a2)]) (dK D_Plan_firstFor 3 rfl) rfl (ltK rfl) rfl ?_
  refine bnSE h (fun p6 e_p6 h => ?_) (fun p5 e_p5 h => ?_)
  · refine gL_weak (ls' := [(0, .ref c0), (1, V a1), (3, V (i_max a2 1))]) (sbc 1 rfl (sbc 2 rfl (sbc 0 rfl sbn))) ?_
    refine tl_Plan_firstFor_6 hc0 ha1 (fun _ e => slr e) (fun p e hr_p6 => ?_) FU (i_max a2 1) e_p6 (i_max_in ha2 (inRk rfl))
    have e := Sum.inl.inj e
    subst e
    exact (by obtain rfl := Option.some.inj h; exact ⟨rfl, hr_p6, rfl⟩)
  · refine gL_weak (ls' := [(0, .ref c0), (1, V a1), (3, V (i_max a2 1))]) (sbc 1 rfl (sbc 2 rfl (sbc 0 rfl sbn))) ?_
    refine tl_Plan_firstFor_6 hc0 ha1 (fun p e => ?_) (fun _ e => srl e) FU (i_max a2 1) e_p5 (i_max_in ha2 (inRk rfl))
    have e := Sum.inr.inj e
    subst e
    refine vg_iconst (pc := 31) (dK D_Plan_firstFor 17 rfl) ?_
    exact vg_iretI (pc := 32) (r := (-1)) (dK D_Plan_firstFor 18 rfl) rfl (leK rfl) (leK rfl) (fun _ => rfl) (by obtain rfl := Option.some.inj h; exact ⟨rfl, (inRk rfl), rfl⟩)
def fn_FP_firstPage (c0 : Nat) (a1 : Int) (a2 : Int) (S : St) : Option (Nat × Int) := bnO (fn_FP_needAd c0 a1 S) fun p1 => if p1 = 0 then (bnO (fn_Plan_firstFor (tgt c0 3) a1 a2 S) fun p2 => some (0, p2)) else (some (p1, 0))
theorem tf_FP_firstPage {E : EV} {X : XT} (hfl : X.2.2.2 = false) {c0 : Nat} (hc0 : HC X 10 c0) {a1 : Int} (ha1 : inR a1) {a2 : Int} (ha2 : inR a2) {S : St} {q : Nat × Int} (h : fn_FP_firstPage c0 a1 a2 S = some q) : Ev E M_FP_firstPage [.ref c0, V a1, V a2] (WX X S) 1 6 (KT X q.1 S (KI X q.2 S)) := by
  refine Ev.of pn_FP rfl (leK rfl) ?_
  show Go E M_FP_firstPage 1 6 0 [(0, .ref c0), (1, V a1), (2, V a2)] [] (WX X S) 0 0 (KT X q.1 S (KI X q.2 S))
  unfold fn_FP_firstPage at h
  refine g_aloadn (pc := 0) (i0 := 0) (j := 0) (dK D_FP_firstPage 0 rfl) rfl rfl ?_
  refine g_iloadn (pc := 1) (i0 := 1) (j := 1) (dK D_FP_firstPage 1 rfl) rfl rfl ?_
  refine bnE h (fun p1 e_p1 h => ?_)
  refine vg_cV (pc := 2) (As := [V a1]) (rest := []) (mc' := 1) (ms' := 6) (dK D_FP_firstPage 2 rfl) K_FP_162 (fitK rfl) (ltK rfl) hc0 rfl (leK rfl) (leK rfl) (leK rfl) (tf_FP_needAd hfl hc0 ha1 e_p1) (kcT hfl (fun he3 => kcU ?_) (fun he3 => ⟨rfl, ?_⟩))
  · replace h := ifP h he3
    refine g_aloadn (pc := 5) (i0 := 0) (j := 0) (dK D_FP_firstPage 3 rfl) rfl rfl ?_
    refine vg_getO (pc := 6) (ci := 10) (f := 3) (dK D_FP_firstPage 4 rfl) q_436 hc0 (ltK rfl) (ltK rfl) rfl ?_
    refine g_iloadn (pc := 9) (i0 := 1) (j := 1) (dK D_FP_firstPage 5 rfl) rfl rfl ?_
    refine g_iloadn (pc := 10) (i0 := 2) (j := 2) (dK D_FP_firstPage 6 rfl) rfl rfl ?_
    refine bnE h (fun p2 e_p2 h => ?_)
    refine vg_cV (pc := 11) (As := [V a1, V a2]) (rest := []) (mc' := 0) (ms' := 0) (dK D_FP_firstPage 7 rfl) K_FP_289 (fitK rfl) (ltK rfl) (hw_10_3 hc0) rfl (leK rfl) (leK rfl) (leK rfl) (tf_Plan_firstFor (hw_10_3 hc0) ha1 ha2 e_p2) (kcI (fun h_p2 => ?_))
    exact vg_iretI (pc := 14) (r := p2) (dK D_FP_firstPage 8 rfl) rfl (leK rfl) (leK rfl) (xf hfl) (by obtain rfl := Option.some.inj h; exact KT_ok ⟨rfl, h_p2, rfl⟩)
  · replace h := ifN h he3
    obtain rfl := Option.some.inj h
    exact KT_thr he3
def fn_FP_needGroup (a0 : Int) (S : St) : Option (Nat) := if a0 < 0 then (some 2) else (if a0 < 10 then (some 0) else (some 2))
theorem tf_FP_needGroup {E : EV} {X : XT} (hfl : X.2.2.2 = false) {a0 : Int} (ha0 : inR a0) {S : St} {q : Nat} (h : fn_FP_needGroup a0 S = some q) : Ev E M_FP_needGroup [V a0] (WX X S) 1 6 (KT X q S (KU X S)) := by
  refine Ev.of pn_FP rfl (leK rfl) ?_
  show Go E M_FP_needGroup 1 6 0 [(0, V a0)] [] (WX X S) 0 0 (KT X q S (KU X S))
  unfold fn_FP_needGroup at h
  refine g_iloadn (pc := 0) (i0 := 0) (j := 0) (dK D_FP_needGroup 0 rfl) rfl rfl ?_
  refine vg_if_lt (pc := 1) (t := 10) (dK D_FP_needGroup 1 rfl) rfl ha0 (fun hc2 => ?_) (fun hc2 => ?_)
  · replace h := ifP h hc2
    exact vg_throwW hfl (pc := 10) TH_FP_148_379 (dK D_FP_needGroup 5 rfl) (dK D_FP_needGroup 6 rfl) (dK D_FP_needGroup 7 rfl) (dK D_FP_needGroup 8 rfl) (dK D_FP_needGroup 9 rfl) rfl (leK rfl) (leK rfl) (leK rfl) (leK rfl) (leK rfl) (by obtain rfl := Option.some.inj h; exact KT_thr (e := 2) (by decide))
  · replace h := ifN h hc2
    refine g_iloadn (pc := 4) (i0 := 0) (j := 0) (dK D_FP_needGroup 2 rfl) rfl rfl ?_
    refine vg_bipush (pc := 5) (dK D_FP_needGroup 3 rfl) rfl ?_
    refine vg_icmp_lt (pc := 7) (t := 21) (dK D_FP_needGroup 4 rfl) rfl ha0 (inRk rfl) (fun hc1 => ?_) (fun hc1 => ?_)
    · replace h := ifP h hc1
      exact g_return (pc := 21) (dK D_FP_needGroup 10 rfl) rfl (leK rfl) (leK rfl) (xf hfl) (by obtain rfl := Option.some.inj h; exact KT_ok ⟨rfl, rfl⟩)
    · replace h := ifN h hc1
      exact vg_throwW hfl (pc := 10) TH_FP_148_379 (dK D_FP_needGroup 5 rfl) (dK D_FP_needGroup 6 rfl) (dK D_FP_needGroup 7 rfl) (dK D_FP_needGroup 8 rfl) (dK D_FP_needGroup 9 rfl) rfl (leK rfl) (leK rfl) (leK rfl) (leK rfl) (leK rfl) (by obtain rfl := Option.some.inj h; exact KT_thr (e := 2) (by decide))
def fn_FP_groupOn (c0 : Nat) (a1 : Int) (a2 : Int) (S : St) : Option (Nat × Int) := bnO (fn_FP_needGroup a1 S) fun p1 => if p1 = 0 then (if a2 < 0 then (some (2, 0)) else (nm (wr ((g S (tgt c0 3) 1).tdiv 2)) fun v2 => if a2 ≤ v2 then (if 0 ≤ ((a1 * 33) + a2) ∧ ((a1 * 33) + a2) < 330 then (some (0, (g S (tgt (tgt c0 3) 7) ((((a1 * 33) + a2)).toNat)))) else none) else (some (2, 0)))) else (some (p1, 0))
theorem tf_FP_groupOn {E : EV} {X : XT} (hfl : X.2.2.2 = false) {c0 : Nat} (hc0 : HC X 10 c0) {a1 : Int} (ha1 : inR a1) {a2 : Int} (ha2 : inR a2) {S : St} {q : Nat × Int} (h : fn_FP_groupOn c0 a1 a2 S = some q) : Ev E M_FP_groupOn [.ref c0, V a1, V a2] (WX X S) 2 12 (KT X q.1 S (KI X q.2 S)) := by
  refine Ev.of pn_FP rfl (leK rfl) ?_
  show Go E M_FP_groupOn 2 12 0 [(0, .ref c0), (1, V a1), (2, V a2)] [] (WX X S) 0 0 (KT X q.1 S (KI X q.2 S))
  unfold fn_FP_groupOn at h
  refine g_iloadn (pc := 0) (i0 := 1) (j := 1) (dK D_FP_groupOn 0 rfl) rfl rfl ?_
  refine bnE h (fun p1 e_p1 h => ?_)
  refine vg_cS (pc := 1) (As := [V a1]) (rest := []) (mc' := 1) (ms' := 6) (dK D_FP_groupOn 1 rfl) K_FP_329 (fitK rfl) rfl (leK rfl) (leK rfl) (leK rfl) (tf_FP_needGroup hfl ha1 e_p1) (kcT hfl (fun he6 => kcU ?_) (fun he6 => ⟨rfl, ?_⟩))
  · replace h := ifP h he6
    refine g_iloadn (pc := 4) (i0 := 2) (j := 2) (dK D_FP_groupOn 2 rfl) rfl rfl ?_
    refine vg_if_lt (pc := 5) (t := 21) (dK D_FP_groupOn 3 rfl) rfl ha2 (fun hc5 => ?_) (fun hc5 => ?_)
    · replace h := ifP h hc5
      exact vg_throwW hfl (pc := 21) TH_FP_148_332 (dK D_FP_groupOn 11 rfl) (dK D_FP_groupOn 12 rfl) (dK D_FP_groupOn 13 rfl) (dK D_FP_groupOn 14 rfl) (dK D_FP_groupOn 15 rfl) rfl (leK rfl) (leK rfl) (leK rfl) (leK rfl) (leK rfl) (by obtain rfl := Option.some.inj h; exact KT_thr (e := 2) (by decide))
    · replace h := ifN h hc5
      refine g_iloadn (pc := 8) (i0 := 2) (j := 2) (dK D_FP_groupOn 4 rfl) rfl rfl ?_
      refine g_aloadn (pc := 9) (i0 := 0) (j := 0) (dK D_FP_groupOn 5 rfl) rfl rfl ?_
      refine vg_getO (pc := 10) (ci := 10) (f := 3) (dK D_FP_groupOn 6 rfl) q_436 hc0 (ltK rfl) (ltK rfl) rfl ?_
      refine vg_getI (pc := 13) (ci := 4) (f := 1) (dK D_FP_groupOn 7 rfl) q_307 (hw_10_3 hc0) (ltK rfl) (ltK rfl) rfl ?_
      refine vg_iconst (pc := 16) (dK D_FP_groupOn 8 rfl) ?_
      refine vg_idiv (pc := 17) (dK D_FP_groupOn 9 rfl) (g_in _ _ _) (inRk rfl) (by decide) ?_
      refine nmE h (fun v2 e_v2 h => ?_)
      refine gtop e_v2 ?_
      refine vg_icmp_le (pc := 18) (t := 32) (dK D_FP_groupOn 10 rfl) rfl ha2 (Vn_in e_v2) (fun hc4 => ?_) (fun hc4 => ?_)
      · replace h := ifP h hc4
        refine g_aloadn (pc := 32) (i0 := 0) (j := 0) (dK D_FP_groupOn 16 rfl) rfl rfl ?_
        refine vg_getO (pc := 33) (ci := 10) (f := 3) (dK D_FP_groupOn 17 rfl) q_436 hc0 (ltK rfl) (ltK rfl) rfl ?_
        refine vg_getA (pc := 36) (ci := 4) (f := 7) (dK D_FP_groupOn 18 rfl) q_324 (hw_10_3 hc0) (ltK rfl) (ltK rfl) rfl ?_
        refine g_iloadn (pc := 39) (i0 := 1) (j := 1) (dK D_FP_groupOn 19 rfl) rfl rfl ?_
        refine vg_bipush (pc := 40) (dK D_FP_groupOn 20 rfl) rfl ?_
        refine vg_imul (pc := 42) (dK D_FP_groupOn 21 rfl) ?_
        refine g_iloadn (pc := 43) (i0 := 2) (j := 2) (dK D_FP_groupOn 22 rfl) rfl rfl ?_
        refine vg_iadd (pc := 44) (dK D_FP_groupOn 23 rfl) ?_
        refine gdE h (fun hi3 h => ?_)
        refine vg_iaload (pc := 45) (j := (((a1 * 33) + a2)).toNat) (dK D_FP_groupOn 24 rfl) (hw_4_7 (hw_10_3 hc0)) rfl hi3 rfl ?_
        exact vg_iretI (pc := 46) (r := (g S (tgt (tgt c0 3) 7) ((((a1 * 33) + a2)).toNat))) (dK D_FP_groupOn 25 rfl) rfl (leK rfl) (leK rfl) (xf hfl) (by obtain rfl := Option.some.inj h; exact KT_ok ⟨rfl, (g_in _ _ _), rfl⟩)
      · replace h := ifN h hc4
        exact vg_throwW hfl (pc := 21) TH_FP_148_332 (dK D_FP_groupOn 11 rfl) (dK D_FP_groupOn 12 rfl) (dK D_FP_groupOn 13 rfl) (dK D_FP_groupOn 14 rfl) (dK D_FP_groupOn 15 rfl) rfl (leK rfl) (leK rfl) (leK rfl) (leK rfl) (leK rfl) (by obtain rfl := Option.some.inj h; exact KT_thr (e := 2) (by decide))
  · replace h := ifN h he6
    obtain rfl := Option.some.inj h
    exact KT_thr he6
def lb_FP_spreadsOf_8 (c0 : Nat) (a1 : Int) (S : St) (go : Int × Int → Option (Int)) (a2 : Int) (a3 : Int) : Option (Int) := nm (wr ((g S (tgt c0 3) 1).tdiv 2)) fun v2 => if v2 < a3 then (some a2) else (if 0 ≤ ((a1 * 33) + a3) ∧ ((a1 * 33) + a3) < 330 then (if (g S (tgt (tgt c0 3) 7) ((((a1 * 33) + a3)).toNat)) ≤ 0 then (nm (wr (a3 + 1)) fun v4 => go (a2, v4)) else (nm (wr (a2 + 1)) fun v5 => nm (wr (a3 + 1)) fun v6 => go (v5, v6))) else none)
def lo_FP_spreadsOf_8 (c0 : Nat) (a1 : Int) (S : St) : Nat → Int × Int → Option (Int) := lp fun go p => lb_FP_spreadsOf_8 c0 a1 S go p.1 p.2
theorem tl_FP_spreadsOf_8 {E : EV} {X : XT} (hfl : X.2.2.2 = false) {c0 : Nat} (hc0 : HC X 10 c0) {a1 : Int} (ha1 : inR a1) {S : St} {K : RK → PS → Prop} {q : Int} (hx : inR q → Go E M_FP_spreadsOf 1 6 47 [(2, V q)] [] (WX X S) 1 6 K) : ∀ n a, lo_FP_spreadsOf_8 c0 a1 S n a = some q → inR a.1 → inR a.2 → Go E M_FP_spreadsOf 1 6 8 [(0, .ref c0), (1, V a1), (2, V a.1), (3, V a.2)] [] (WX X S) 1 6 K := by
  refine lp_ind (P := fun a : Int × Int => inR a.1 → inR a.2 → Go E M_FP_spreadsOf 1 6 8 [(0, .ref c0), (1, V a1), (2, V a.1), (3, V a.2)] [] (WX X S) 1 6 K) (fun go ih a h => ?_)
  obtain ⟨a2, a3⟩ := a
  intro ha2 ha3
  show Go E M_FP_spreadsOf 1 6 8 [(0, .ref c0), (1, V a1), (2, V a2), (3, V a3)] [] (WX X S) 1 6 K
  replace h : lb_FP_spreadsOf_8 c0 a1 S go a2 a3 = some q := h
  unfold lb_FP_spreadsOf_8 at h
  refine g_iloadn (pc := 8) (i0 := 3) (j := 3) (dK D_FP_spreadsOf 6 rfl) rfl rfl ?_
  refine g_aloadn (pc := 9) (i0 := 0) (j := 0) (dK D_FP_spreadsOf 7 rfl) rfl rfl ?_
  refine vg_getO (pc := 10) (ci := 10) (f := 3) (dK D_FP_spreadsOf 8 rfl) q_436 hc0 (ltK rfl) (ltK rfl) rfl ?_
  refine vg_getI (pc := 13) (ci := 4) (f := 1) (dK D_FP_spreadsOf 9 rfl) q_307 (hw_10_3 hc0) (ltK rfl) (ltK rfl) rfl ?_
  refine vg_iconst (pc := 16) (dK D_FP_spreadsOf 10 rfl) ?_
  refine vg_idiv (pc := 17) (dK D_FP_spreadsOf 11 rfl) (g_in _ _ _) (inRk rfl) (by decide) ?_
  refine nmE h (fun v2 e_v2 h => ?_)
  refine gtop e_v2 ?_
  refine vg_icmp_gt (pc := 18) (t := 47) (dK D_FP_spreadsOf 12 rfl) rfl ha3 (Vn_in e_v2) (fun hc8 => ?_) (fun hc8 => ?_)
  · replace h := ifP h hc8
    obtain rfl := Option.some.inj h
    refine gL_weak (ls' := [(2, V a2)]) (sbc 2 rfl sbn) ?_
    exact hx ha2
  · replace h := ifN h hc8
    refine g_aloadn (pc := 21) (i0 := 0) (j := 0) (dK D_FP_spreadsOf 13 rfl) rfl rfl ?_
    refine vg_getO (pc := 22) (ci := 10) (f := 3) (dK D_FP_spreadsOf 14 rfl) q_436 hc0 (ltK rfl) (ltK rfl) rfl ?_
    refine vg_getA (pc := 25) (ci := 4) (f := 7) (dK D_FP_spreadsOf 15 rfl) q_324 (hw_10_3 hc0) (ltK rfl) (ltK rfl) rfl ?_
    refine g_iloadn (pc := 28) (i0 := 1) (j := 1) (dK D_FP_spreadsOf 16 rfl) rfl rfl ?_
    refine vg_bipush (pc := 29) (dK D_FP_spreadsOf 17 rfl) rfl ?_
    refine vg_imul (pc := 31) (dK D_FP_spreadsOf 18 rfl) ?_
    refine g_iloadn (pc := 32) (i0 := 3) (j := 3) (dK D_FP_spreadsOf 19 rfl) rfl rfl ?_
    refine vg_iadd (pc := 33) (dK D_FP_spreadsOf 20 rfl) ?_
    refine gdE h (fun hi3 h => ?_)
    refine vg_iaload (pc := 34) (j := (((a1 * 33) + a3)).toNat) (dK D_FP_spreadsOf 21 rfl) (hw_4_7 (hw_10_3 hc0)) rfl hi3 rfl ?_
    refine vg_if_le (pc := 35) (t := 41) (dK D_FP_spreadsOf 22 rfl) rfl (g_in _ _ _) (fun hc7 => ?_) (fun hc7 => ?_)
    · replace h := ifP h hc7
      refine nmE h (fun v4 e_v4 h => ?_)
      refine vg_iinc (pc := 41) (j := 3) (a := a3) (z := 1) (ls2 := [(3, V v4), (0, .ref c0), (1, V a1), (2, V a2)]) (dK D_FP_spreadsOf 24 rfl) rfl e_v4 (ltK rfl) rfl ?_
      refine g_goto (pc := 44) (tgt := 8) (dK D_FP_spreadsOf 25 rfl) rfl ?_
      refine gL_weak (ls' := [(0, .ref c0), (1, V a1), (2, V a2), (3, V v4)]) (sbc 1 rfl (sbc 2 rfl (sbc 3 rfl (sbc 0 rfl sbn)))) ?_
      replace h := ih _ h
      exact h ha2 (Vn_in e_v4)
    · replace h := ifN h hc7
      refine nmE h (fun v5 e_v5 h => ?_)
      refine vg_iinc (pc := 38) (j := 2) (a := a2) (z := 1) (ls2 := [(2, V v5), (0, .ref c0), (1, V a1), (3, V a3)]) (dK D_FP_spreadsOf 23 rfl) rfl e_v5 (ltK rfl) rfl ?_
      refine nmE h (fun v6 e_v6 h => ?_)
      refine vg_iinc (pc := 41) (j := 3) (a := a3) (z := 1) (ls2 := [(3, V v6), (2, V v5), (0, .ref c0), (1, V a1)]) (dK D_FP_spreadsOf 24 rfl) rfl e_v6 (ltK rfl) rfl ?_
      refine g_goto (pc := 44) (tgt := 8) (dK D_FP_spreadsOf 25 rfl) rfl ?_
      refine gL_weak (ls' := [(0, .ref c0), (1, V a1), (2, V v5), (3, V v6)]) (sbc 2 rfl (sbc 3 rfl (sbc 1 rfl (sbc 0 rfl sbn)))) ?_
      replace h := ih _ h
      exact h (Vn_in e_v5) (Vn_in e_v6)
def fn_FP_spreadsOf (c0 : Nat) (a1 : Int) (S : St) : Option (Nat × Int) := bnO (fn_FP_needGroup a1 S) fun p1 => if p1 = 0 then (bnO (lo_FP_spreadsOf_8 c0 a1 S FU (0, 0)) fun p9 => some (0, p9)) else (some (p1, 0))
theorem tf_FP_spreadsOf {E : EV} {X : XT} (hfl : X.2.2.2 = false) {c0 : Nat} (hc0 : HC X 10 c0) {a1 : Int} (ha1 : inR a1) {S : St} {q : Nat × Int} (h : fn_FP_spreadsOf c0 a1 S = some q) : Ev E M_FP_spreadsOf [.ref c0, V a1] (WX X S) 1 6 (KT X q.1 S (KI X q.2 S)) := by
  refine Ev.of pn_FP rfl (leK rfl) ?_
  show Go E M_FP_spreadsOf 1 6 0 [(0, .ref c0), (1, V a1)] [] (WX X S) 0 0 (KT X q.1 S (KI X q.2 S))
  unfold fn_FP_spreadsOf at h
  refine g_iloadn (pc := 0) (i0 := 1) (j := 1) (dK D_FP_spreadsOf 0 rfl) rfl rfl ?_
  refine bnE h (fun p1 e_p1 h => ?_)
  refine vg_cS (pc := 1) (As := [V a1]) (rest := []) (mc' := 1) (ms' := 6) (dK D_FP_spreadsOf 1 rfl) K_FP_329 (fitK rfl) rfl (leK rfl) (leK rfl) (leK rfl) (tf_FP_needGroup hfl ha1 e_p1) (kcT hfl (fun he10 => kcU ?_) (fun he10 => ⟨rfl, ?_⟩))
  · replace h := ifP h he10
    refine vg_iconst (pc := 4) (dK D_FP_spreadsOf 2 rfl) ?_
    refine g_istoren (pc := 5) (i0 := 2) (ls2 := [(2, V 0), (0, .ref c0), (1, V a1)]) (dK D_FP_spreadsOf 3 rfl) rfl (ltK rfl) rfl ?_
    refine vg_iconst (pc := 6) (dK D_FP_spreadsOf 4 rfl) ?_
    refine g_istoren (pc := 7) (i0 := 3) (ls2 := [(3, V 0), (2, V 0), (0, .ref c0), (1, V a1)]) (dK D_FP_spreadsOf 5 rfl) rfl (ltK rfl) rfl ?_
    refine bnE h (fun p9 e_p9 h => ?_)
    refine gL_weak (ls' := [(0, .ref c0), (1, V a1), (2, V 0), (3, V 0)]) (sbc 2 rfl (sbc 3 rfl (sbc 1 rfl (sbc 0 rfl sbn)))) ?_
    refine tl_FP_spreadsOf_8 hfl hc0 ha1 (fun hx2_p9 => ?_) FU (0, 0) e_p9 (inRk rfl) (inRk rfl)
    refine g_iloadn (pc := 47) (i0 := 2) (j := 0) (dK D_FP_spreadsOf 26 rfl) rfl rfl ?_
    exact vg_iretI (pc := 48) (r := p9) (dK D_FP_spreadsOf 27 rfl) rfl (leK rfl) (leK rfl) (xf hfl) (by obtain rfl := Option.some.inj h; exact KT_ok ⟨rfl, hx2_p9, rfl⟩)
  · replace h := ifN h he10
    obtain rfl := Option.some.inj h
    exact KT_thr he10
def lb_FP_revenueOfGroup_20 (a1 : Int) (c2 : Nat) (S : St) (go : Int × Int → Option (Int)) (a3 : Int) (a4 : Int) : Option (Int) := if (g S c2 7) ≤ a4 then (some a3) else (if 0 ≤ a4 ∧ a4 < 40 then (if (g S (tgt c2 6) a4.toNat) = 0 then (nm (wr (a4 + 1)) fun v3 => go (a3, v3)) else (if (g S (tgt c2 1) a4.toNat) = a1 then (nm (wr (a3 + (g S (tgt c2 4) a4.toNat))) fun v5 => nm (wr (a4 + 1)) fun v6 => go (v5, v6)) else (nm (wr (a4 + 1)) fun v4 => go (a3, v4)))) else none)
def lo_FP_revenueOfGroup_20 (a1 : Int) (c2 : Nat) (S : St) : Nat → Int × Int → Option (Int) := lp fun go p => lb_FP_revenueOfGroup_20 a1 c2 S go p.1 p.2
theorem tl_FP_revenueOfGroup_20 {E : EV} {X : XT} (hfl : X.2.2.2 = false) {a1 : Int} (ha1 : inR a1) {c2 : Nat} (hc2 : HC X 0 c2) {S : St} {K : RK → PS → Prop} {q : Int} (hx : inR q → Go E M_FP_revenueOfGroup 1 6 66 [(3, V q)] [] (WX X S) 1 6 K) : ∀ n a, lo_FP_revenueOfGroup_20 a1 c2 S n a = some q → inR a.1 → inR a.2 → Go E M_FP_revenueOfGroup 1 6 20 [(1, V a1), (2, .ref c2), (3, V a.1), (4, V a.2)] [] (WX X S) 1 6 K := by
  refine lp_ind (P := fun a : Int × Int => inR a.1 → inR a.2 → Go E M_FP_revenueOfGroup 1 6 20 [(1, V a1), (2, .ref c2), (3, V a.1), (4, V a.2)] [] (WX X S) 1 6 K) (fun go ih a h => ?_)
  obtain ⟨a3, a4⟩ := a
  intro ha3 ha4
  show Go E M_FP_revenueOfGroup 1 6 20 [(1, V a1), (2, .ref c2), (3, V a3), (4, V a4)] [] (WX X S) 1 6 K
  replace h : lb_FP_revenueOfGroup_20 a1 c2 S go a3 a4 = some q := h
  unfold lb_FP_revenueOfGroup_20 at h
  refine g_iload (pc := 20) (j := 3) (dK D_FP_revenueOfGroup 11 rfl) rfl ?_
  refine g_aloadn (pc := 22) (i0 := 2) (j := 1) (dK D_FP_revenueOfGroup 12 rfl) rfl rfl ?_
  refine vg_getI (pc := 23) (ci := 0) (f := 7) (dK D_FP_revenueOfGroup 13 rfl) q_120 hc2 (ltK rfl) (ltK rfl) rfl ?_
  refine vg_icmp_ge (pc := 26) (t := 66) (dK D_FP_revenueOfGroup 14 rfl) rfl ha4 (g_in _ _ _) (fun hc9 => ?_) (fun hc9 => ?_)
  · replace h := ifP h hc9
    obtain rfl := Option.some.inj h
    refine gL_weak (ls' := [(3, V a3)]) (sbc 2 rfl sbn) ?_
    exact hx ha3
  · replace h := ifN h hc9
    refine g_aloadn (pc := 29) (i0 := 2) (j := 1) (dK D_FP_revenueOfGroup 15 rfl) rfl rfl ?_
    refine vg_getA (pc := 30) (ci := 0) (f := 6) (dK D_FP_revenueOfGroup 16 rfl) q_114 hc2 (ltK rfl) (ltK rfl) rfl ?_
    refine g_iload (pc := 33) (j := 3) (dK D_FP_revenueOfGroup 17 rfl) rfl ?_
    refine gdE h (fun hi2 h => ?_)
    refine vg_iaload (pc := 35) (j := a4.toNat) (dK D_FP_revenueOfGroup 18 rfl) (hw_0_6 hc2) rfl hi2 rfl ?_
    refine vg_if_eq (pc := 36) (t := 60) (dK D_FP_revenueOfGroup 19 rfl) rfl (g_in _ _ _) (fun hc8 => ?_) (fun hc8 => ?_)
    · replace h := ifP h hc8
      refine nmE h (fun v3 e_v3 h => ?_)
      refine vg_iinc (pc := 60) (j := 3) (a := a4) (z := 1) (ls2 := [(4, V v3), (1, V a1), (2, .ref c2), (3, V a3)]) (dK D_FP_revenueOfGroup 33 rfl) rfl e_v3 (ltK rfl) rfl ?_
      refine g_goto (pc := 63) (tgt := 20) (dK D_FP_revenueOfGroup 34 rfl) rfl ?_
      refine gL_weak (ls' := [(1, V a1), (2, .ref c2), (3, V a3), (4, V v3)]) (sbc 1 rfl (sbc 2 rfl (sbc 3 rfl (sbc 0 rfl sbn)))) ?_
      replace h := ih _ h
      exact h ha3 (Vn_in e_v3)
    · replace h := ifN h hc8
      refine g_aloadn (pc := 39) (i0 := 2) (j := 1) (dK D_FP_revenueOfGroup 20 rfl) rfl rfl ?_
      refine vg_getA (pc := 40) (ci := 0) (f := 1) (dK D_FP_revenueOfGroup 21 rfl) q_93 hc2 (ltK rfl) (ltK rfl) rfl ?_
      refine g_iload (pc := 43) (j := 3) (dK D_FP_revenueOfGroup 22 rfl) rfl ?_
      refine vg_iaload (pc := 45) (j := a4.toNat) (dK D_FP_revenueOfGroup 23 rfl) (hw_0_1 hc2) rfl hi2 rfl ?_
      refine g_iloadn (pc := 46) (i0 := 1) (j := 0) (dK D_FP_revenueOfGroup 24 rfl) rfl rfl ?_
      refine vg_icmp_ne (pc := 47) (t := 60) (dK D_FP_revenueOfGroup 25 rfl) rfl (g_in _ _ _) ha1 (fun hc7 => ?_) (fun hc7 => ?_)
      · replace h := ifN h hc7
        refine nmE h (fun v4 e_v4 h => ?_)
        refine vg_iinc (pc := 60) (j := 3) (a := a4) (z := 1) (ls2 := [(4, V v4), (1, V a1), (2, .ref c2), (3, V a3)]) (dK D_FP_revenueOfGroup 33 rfl) rfl e_v4 (ltK rfl) rfl ?_
        refine g_goto (pc := 63) (tgt := 20) (dK D_FP_revenueOfGroup 34 rfl) rfl ?_
        refine gL_weak (ls' := [(1, V a1), (2, .ref c2), (3, V a3), (4, V v4)]) (sbc 1 rfl (sbc 2 rfl (sbc 3 rfl (sbc 0 rfl sbn)))) ?_
        replace h := ih _ h
        exact h ha3 (Vn_in e_v4)
      · replace h := ifP h hc7
        refine g_iloadn (pc := 50) (i0 := 3) (j := 2) (dK D_FP_revenueOfGroup 26 rfl) rfl rfl ?_
        refine g_aloadn (pc := 51) (i0 := 2) (j := 1) (dK D_FP_revenueOfGroup 27 rfl) rfl rfl ?_
        refine vg_getA (pc := 52) (ci := 0) (f := 4) (dK D_FP_revenueOfGroup 28 rfl) q_105 hc2 (ltK rfl) (ltK rfl) rfl ?_
        refine g_iload (pc := 55) (j := 3) (dK D_FP_revenueOfGroup 29 rfl) rfl ?_
        refine vg_iaload (pc := 57) (j := a4.toNat) (dK D_FP_revenueOfGroup 30 rfl) (hw_0_4 hc2) rfl hi2 rfl ?_
        refine vg_iadd (pc := 58) (dK D_FP_revenueOfGroup 31 rfl) ?_
        refine nmE h (fun v5 e_v5 h => ?_)
        refine gtop e_v5 ?_
        refine g_istoren (pc := 59) (i0 := 3) (ls2 := [(3, V v5), (1, V a1), (2, .ref c2), (4, V a4)]) (dK D_FP_revenueOfGroup 32 rfl) rfl (ltK rfl) rfl ?_
        refine nmE h (fun v6 e_v6 h => ?_)
        refine vg_iinc (pc := 60) (j := 3) (a := a4) (z := 1) (ls2 := [(4, V v6), (3, V v5), (1, V a1), (2, .ref c2)]) (dK D_FP_revenueOfGroup 33 rfl) rfl e_v6 (ltK rfl) rfl ?_
        refine g_goto (pc := 63) (tgt := 20) (dK D_FP_revenueOfGroup 34 rfl) rfl ?_
        refine gL_weak (ls' := [(1, V a1), (2, .ref c2), (3, V v5), (4, V v6)]) (sbc 2 rfl (sbc 3 rfl (sbc 1 rfl (sbc 0 rfl sbn)))) ?_
        replace h := ih _ h
        exact h (Vn_in e_v5) (Vn_in e_v6)
def fn_FP_revenueOfGroup (c0 : Nat) (a1 : Int) (S : St) : Option (Nat × Int) := bnO (fn_FP_needGroup a1 S) fun p1 => if p1 = 0 then (bnO (lo_FP_revenueOfGroup_20 a1 (tgt (tgt (tgt c0 3) 0) 0) S FU (0, 0)) fun p10 => some (0, p10)) else (some (p1, 0))
theorem tf_FP_revenueOfGroup {E : EV} {X : XT} (hfl : X.2.2.2 = false) {c0 : Nat} (hc0 : HC X 10 c0) {a1 : Int} (ha1 : inR a1) {S : St} {q : Nat × Int} (h : fn_FP_revenueOfGroup c0 a1 S = some q) : Ev E M_FP_revenueOfGroup [.ref c0, V a1] (WX X S) 1 6 (KT X q.1 S (KI X q.2 S)) := by
  refine Ev.of pn_FP rfl (leK rfl) ?_
  show Go E M_FP_revenueOfGroup 1 6 0 [(0, .ref c0), (1, V a1)] [] (WX X S) 0 0 (KT X q.1 S (KI X q.2 S))
  unfold fn_FP_revenueOfGroup at h
  refine g_iloadn (pc := 0) (i0 := 1) (j := 1) (dK D_FP_revenueOfGroup 0 rfl) rfl rfl ?_
  refine bnE h (fun p1 e_p1 h => ?_)
  refine vg_cS (pc := 1) (As := [V a1]) (rest := []) (mc' := 1) (ms' := 6) (dK D_FP_revenueOfGroup 1 rfl) K_FP_329 (fitK rfl) rfl (leK rfl) (leK rfl) (leK rfl) (tf_FP_needGroup hfl ha1 e_p1) (kcT hfl (fun he11 => kcU ?_) (fun he11 => ⟨rfl, ?_⟩))
  · replace h := ifP h he11
    refine g_aloadn (pc := 4) (i0 := 0) (j := 0) (dK D_FP_revenueOfGroup 2 rfl) rfl rfl ?_
    refine vg_getO (pc := 5) (ci := 10) (f := 3) (dK D_FP_revenueOfGroup 3 rfl) q_436 hc0 (ltK rfl) (ltK rfl) rfl ?_
    refine vg_getO (pc := 8) (ci := 4) (f := 0) (dK D_FP_revenueOfGroup 4 rfl) q_303 (hw_10_3 hc0) (ltK rfl) (ltK rfl) rfl ?_
    refine vg_getO (pc := 11) (ci := 8) (f := 0) (dK D_FP_revenueOfGroup 5 rfl) q_235 (hw_4_0 (hw_10_3 hc0)) (ltK rfl) (ltK rfl) rfl ?_
    refine g_astoren (pc := 14) (i0 := 2) (ls2 := [(2, .ref (tgt (tgt (tgt c0 3) 0) 0)), (0, .ref c0), (1, V a1)]) (dK D_FP_revenueOfGroup 6 rfl) rfl (ltK rfl) rfl ?_
    refine vg_iconst (pc := 15) (dK D_FP_revenueOfGroup 7 rfl) ?_
    refine g_istoren (pc := 16) (i0 := 3) (ls2 := [(3, V 0), (2, .ref (tgt (tgt (tgt c0 3) 0) 0)), (0, .ref c0), (1, V a1)]) (dK D_FP_revenueOfGroup 8 rfl) rfl (ltK rfl) rfl ?_
    refine vg_iconst (pc := 17) (dK D_FP_revenueOfGroup 9 rfl) ?_
    refine g_istore (pc := 18) (ls2 := [(4, V 0), (3, V 0), (2, .ref (tgt (tgt (tgt c0 3) 0) 0)), (0, .ref c0), (1, V a1)]) (dK D_FP_revenueOfGroup 10 rfl) (ltK rfl) rfl ?_
    refine bnE h (fun p10 e_p10 h => ?_)
    refine gL_weak (ls' := [(1, V a1), (2, .ref (tgt (tgt (tgt c0 3) 0) 0)), (3, V 0), (4, V 0)]) (sbc 4 rfl (sbc 2 rfl (sbc 1 rfl (sbc 0 rfl sbn)))) ?_
    refine tl_FP_revenueOfGroup_20 hfl ha1 (hw_8_0 (hw_4_0 (hw_10_3 hc0))) (fun hx3_p10 => ?_) FU (0, 0) e_p10 (inRk rfl) (inRk rfl)
    refine g_iloadn (pc := 66) (i0 := 3) (j := 0) (dK D_FP_revenueOfGroup 35 rfl) rfl rfl ?_
    exact vg_iretI (pc := 67) (r := p10) (dK D_FP_revenueOfGroup 36 rfl) rfl (leK rfl) (leK rfl) (xf hfl) (by obtain rfl := Option.some.inj h; exact KT_ok ⟨rfl, hx3_p10, rfl⟩)
  · replace h := ifN h he11
    obtain rfl := Option.some.inj h
    exact KT_thr he11
def lb_FP_nearRivals_28 (c1 : Nat) (a3 : Int) (S : St) (go : Int × Int → Option (Int)) (a2 : Int) (a4 : Int) : Option (Int) := if (g S c1 7) ≤ a4 then (some a2) else (if 0 ≤ a3 ∧ a3 < 40 then (if (g S (tgt c1 6) a3.toNat) = 0 then (nm (wr (a4 + 1)) fun v3 => go (a2, v3)) else (if 0 ≤ a4 ∧ a4 < 40 then (if (g S (tgt c1 6) a4.toNat) = 0 then (nm (wr (a4 + 1)) fun v5 => go (a2, v5)) else (bnO (fn_Ads_areRivals c1 a3 a4 S) fun p6 => if p6 = true then (nm (wr (((g S (tgt c1 6) a3.toNat).tdiv 2) - ((g S (tgt c1 6) a4.toNat).tdiv 2))) fun v9 => nm (wr (i_abs v9)) fun v10 => if v10 = 1 then (nm (wr (a2 + 1)) fun v12 => nm (wr (a4 + 1)) fun v13 => go (v12, v13)) else (nm (wr (a4 + 1)) fun v11 => go (a2, v11))) else (nm (wr (a4 + 1)) fun v8 => go (a2, v8)))) else none)) else none)
def lo_FP_nearRivals_28 (c1 : Nat) (a3 : Int) (S : St) : Nat → Int × Int → Option (Int) := lp fun go p => lb_FP_nearRivals_28 c1 a3 S go p.1 p.2
theorem tl_FP_nearRivals_28 {E : EV} {X : XT} {c1 : Nat} (hc1 : HC X 0 c1) {a3 : Int} (ha3 : inR a3) {S : St} {K : RK → PS → Prop} {q : Int} (hx : inR q → Go E M_FP_nearRivals 0 0 100 [(1, .ref c1), (2, V q), (3, V a3)] [] (WX X S) 0 0 K) : ∀ n a, lo_FP_nearRivals_28 c1 a3 S n a = some q → inR a.1 → inR a.2 → Go E M_FP_nearRivals 0 0 28 [(1, .ref c1), (2, V a.1), (3, V a3), (4, V a.2)] [] (WX X S) 0 0 K := by
  refine lp_ind (P := fun a : Int × Int => inR a.1 → inR a.2 → Go E M_FP_nearRivals 0 0 28 [(1, .ref c1), (2, V a.1), (3, V a3), (4, V a.2)] [] (WX X S) 0 0 K) (fun go ih a h => ?_)
  obtain ⟨a2, a4⟩ := a
  intro ha2 ha4
  show Go E M_FP_nearRivals 0 0 28 [(1, .ref c1), (2, V a2), (3, V a3), (4, V a4)] [] (WX X S) 0 0 K
  replace h : lb_FP_nearRivals_28 c1 a3 S go a2 a4 = some q := h
  unfold lb_FP_nearRivals_28 at h
  refine g_iload (pc := 28) (j := 3) (dK D_FP_nearRivals_0 17 rfl) rfl ?_
  refine g_aloadn (pc := 30) (i0 := 1) (j := 0) (dK D_FP_nearRivals_0 18 rfl) rfl rfl ?_
  refine vg_getI (pc := 31) (ci := 0) (f := 7) (dK D_FP_nearRivals_0 19 rfl) q_120 hc1 (ltK rfl) (ltK rfl) rfl ?_
  refine vg_icmp_ge (pc := 34) (t := 100) (dK D_FP_nearRivals_0 20 rfl) rfl ha4 (g_in _ _ _) (fun hc17 => ?_) (fun hc17 => ?_)
  · replace h := ifP h hc17
    obtain rfl := Option.some.inj h
    refine gL_weak (ls' := [(1, .ref c1), (2, V a2), (3, V a3)]) (sbc 0 rfl (sbc 1 rfl (sbc 2 rfl sbn))) ?_
    exact hx ha2
  · replace h := ifN h hc17
    refine g_aloadn (pc := 37) (i0 := 1) (j := 0) (dK D_FP_nearRivals_0 21 rfl) rfl rfl ?_
    refine vg_getA (pc := 38) (ci := 0) (f := 6) (dK D_FP_nearRivals_0 22 rfl) q_114 hc1 (ltK rfl) (ltK rfl) rfl ?_
    refine g_iloadn (pc := 41) (i0 := 3) (j := 2) (dK D_FP_nearRivals_0 23 rfl) rfl rfl ?_
    refine gdE h (fun hi2 h => ?_)
    refine vg_iaload (pc := 42) (j := a3.toNat) (dK D_FP_nearRivals_0 24 rfl) (hw_0_6 hc1) rfl hi2 rfl ?_
    refine vg_if_eq (pc := 43) (t := 94) (dK D_FP_nearRivals_0 25 rfl) rfl (g_in _ _ _) (fun hc16 => ?_) (fun hc16 => ?_)
    · replace h := ifP h hc16
      refine nmE h (fun v3 e_v3 h => ?_)
      refine vg_iinc (pc := 94) (j := 3) (a := a4) (z := 1) (ls2 := [(4, V v3), (1, .ref c1), (2, V a2), (3, V a3)]) (dK D_FP_nearRivals_1 3 rfl) rfl e_v3 (ltK rfl) rfl ?_
      refine g_goto (pc := 97) (tgt := 28) (dK D_FP_nearRivals_1 4 rfl) rfl ?_
      refine gL_weak (ls' := [(1, .ref c1), (2, V a2), (3, V a3), (4, V v3)]) (sbc 1 rfl (sbc 2 rfl (sbc 3 rfl (sbc 0 rfl sbn)))) ?_
      replace h := ih _ h
      exact h ha2 (Vn_in e_v3)
    · replace h := ifN h hc16
      refine g_aloadn (pc := 46) (i0 := 1) (j := 0) (dK D_FP_nearRivals_0 26 rfl) rfl rfl ?_
      refine vg_getA (pc := 47) (ci := 0) (f := 6) (dK D_FP_nearRivals_0 27 rfl) q_114 hc1 (ltK rfl) (ltK rfl) rfl ?_
      refine g_iload (pc := 50) (j := 3) (dK D_FP_nearRivals_0 28 rfl) rfl ?_
      refine gdE h (fun hi4 h => ?_)
      refine vg_iaload (pc := 52) (j := a4.toNat) (dK D_FP_nearRivals_0 29 rfl) (hw_0_6 hc1) rfl hi4 rfl ?_
      refine vg_if_eq (pc := 53) (t := 94) (dK D_FP_nearRivals_0 30 rfl) rfl (g_in _ _ _) (fun hc15 => ?_) (fun hc15 => ?_)
      · replace h := ifP h hc15
        refine nmE h (fun v5 e_v5 h => ?_)
        refine vg_iinc (pc := 94) (j := 3) (a := a4) (z := 1) (ls2 := [(4, V v5), (1, .ref c1), (2, V a2), (3, V a3)]) (dK D_FP_nearRivals_1 3 rfl) rfl e_v5 (ltK rfl) rfl ?_
        refine g_goto (pc := 97) (tgt := 28) (dK D_FP_nearRivals_1 4 rfl) rfl ?_
        refine gL_weak (ls' := [(1, .ref c1), (2, V a2), (3, V a3), (4, V v5)]) (sbc 1 rfl (sbc 2 rfl (sbc 3 rfl (sbc 0 rfl sbn)))) ?_
        replace h := ih _ h
        exact h ha2 (Vn_in e_v5)
      · replace h := ifN h hc15
        refine g_aloadn (pc := 56) (i0 := 1) (j := 0) (dK D_FP_nearRivals_0 31 rfl) rfl rfl ?_
        refine g_iloadn (pc := 57) (i0 := 3) (j := 2) (dK D_FP_nearRivals_0 32 rfl) rfl rfl ?_
        refine g_iload (pc := 58) (j := 3) (dK D_FP_nearRivals_0 33 rfl) rfl ?_
        refine bnE h (fun p6 e_p6 h => ?_)
        refine vg_cV (pc := 60) (As := [V a3, V a4]) (rest := []) (mc' := 0) (ms' := 0) (dK D_FP_nearRivals_0 34 rfl) K_FP_320 (fitK rfl) (ltK rfl) hc1 rfl (leK rfl) (leK rfl) (leK rfl) (tf_Ads_areRivals hc1 ha3 ha4 e_p6) (kcB ?_)
        refine vg_ifB_eq (pc := 63) (b := p6) (t := 94) (dK D_FP_nearRivals_0 35 rfl) rfl (fun hc7 => ?_) (fun hc7 => ?_)
        · replace h := ifP h hc7
          refine g_aloadn (pc := 66) (i0 := 1) (j := 0) (dK D_FP_nearRivals_0 36 rfl) rfl rfl ?_
          refine vg_getA (pc := 67) (ci := 0) (f := 6) (dK D_FP_nearRivals_0 37 rfl) q_114 hc1 (ltK rfl) (ltK rfl) rfl ?_
          refine g_iloadn (pc := 70) (i0 := 3) (j := 2) (dK D_FP_nearRivals_0 38 rfl) rfl rfl ?_
          refine vg_iaload (pc := 71) (j := a3.toNat) (dK D_FP_nearRivals_0 39 rfl) (hw_0_6 hc1) rfl hi2 rfl ?_
          refine vg_iconst (pc := 72) (dK D_FP_nearRivals_0 40 rfl) ?_
          refine vg_idiv (pc := 73) (dK D_FP_nearRivals_0 41 rfl) (g_in _ _ _) (inRk rfl) (by decide) ?_
          refine g_aloadn (pc := 74) (i0 := 1) (j := 0) (dK D_FP_nearRivals_0 42 rfl) rfl rfl ?_
          refine vg_getA (pc := 75) (ci := 0) (f := 6) (dK D_FP_nearRivals_0 43 rfl) q_114 hc1 (ltK rfl) (ltK rfl) rfl ?_
          refine g_iload (pc := 78) (j := 3) (dK D_FP_nearRivals_0 44 rfl) rfl ?_
          refine vg_iaload (pc := 80) (j := a4.toNat) (dK D_FP_nearRivals_0 45 rfl) (hw_0_6 hc1) rfl hi4 rfl ?_
          refine vg_iconst (pc := 81) (dK D_FP_nearRivals_0 46 rfl) ?_
          refine vg_idiv (pc := 82) (dK D_FP_nearRivals_0 47 rfl) (g_in _ _ _) (inRk rfl) (by decide) ?_
          refine vg_isub (pc := 83) (dK D_FP_nearRivals_0 48 rfl) ?_
          refine nmE h (fun v9 e_v9 h => ?_)
          refine gtop e_v9 ?_
          refine vg_mabs (pc := 84) (dK D_FP_nearRivals_0 49 rfl) q_1753 (leK rfl) (leK rfl) (leK rfl) (leK rfl) (Vn_in e_v9) ?_
          refine vg_iconst (pc := 87) (dK D_FP_nearRivals_1 0 rfl) ?_
          refine nmE h (fun v10 e_v10 h => ?_)
          refine gsk (st' := [V 1, V v10]) (by rw [Vn e_v10]) ?_
          refine vg_icmp_ne (pc := 88) (t := 94) (dK D_FP_nearRivals_1 1 rfl) rfl (Vn_in e_v10) (inRk rfl) (fun hc14 => ?_) (fun hc14 => ?_)
          · replace h := ifN h hc14
            refine nmE h (fun v11 e_v11 h => ?_)
            refine vg_iinc (pc := 94) (j := 3) (a := a4) (z := 1) (ls2 := [(4, V v11), (1, .ref c1), (2, V a2), (3, V a3)]) (dK D_FP_nearRivals_1 3 rfl) rfl e_v11 (ltK rfl) rfl ?_
            refine g_goto (pc := 97) (tgt := 28) (dK D_FP_nearRivals_1 4 rfl) rfl ?_
            refine gL_weak (ls' := [(1, .ref c1), (2, V a2), (3, V a3), (4, V v11)]) (sbc 1 rfl (sbc 2 rfl (sbc 3 rfl (sbc 0 rfl sbn)))) ?_
            replace h := ih _ h
            exact h ha2 (Vn_in e_v11)
          · replace h := ifP h hc14
            refine nmE h (fun v12 e_v12 h => ?_)
            refine vg_iinc (pc := 91) (j := 1) (a := a2) (z := 1) (ls2 := [(2, V v12), (1, .ref c1), (3, V a3), (4, V a4)]) (dK D_FP_nearRivals_1 2 rfl) rfl e_v12 (ltK rfl) rfl ?_
            refine nmE h (fun v13 e_v13 h => ?_)
            refine vg_iinc (pc := 94) (j := 3) (a := a4) (z := 1) (ls2 := [(4, V v13), (2, V v12), (1, .ref c1), (3, V a3)]) (dK D_FP_nearRivals_1 3 rfl) rfl e_v13 (ltK rfl) rfl ?_
            refine g_goto (pc := 97) (tgt := 28) (dK D_FP_nearRivals_1 4 rfl) rfl ?_
            refine gL_weak (ls' := [(1, .ref c1), (2, V v12), (3, V a3), (4, V v13)]) (sbc 2 rfl (sbc 1 rfl (sbc 3 rfl (sbc 0 rfl sbn)))) ?_
            replace h := ih _ h
            exact h (Vn_in e_v12) (Vn_in e_v13)
        · replace h := ifN h hc7
          refine nmE h (fun v8 e_v8 h => ?_)
          refine vg_iinc (pc := 94) (j := 3) (a := a4) (z := 1) (ls2 := [(4, V v8), (1, .ref c1), (2, V a2), (3, V a3)]) (dK D_FP_nearRivals_1 3 rfl) rfl e_v8 (ltK rfl) rfl ?_
          refine g_goto (pc := 97) (tgt := 28) (dK D_FP_nearRivals_1 4 rfl) rfl ?_
          refine gL_weak (ls' := [(1, .ref c1), (2, V a2), (3, V a3), (4, V v8)]) (sbc 1 rfl (sbc 2 rfl (sbc 3 rfl (sbc 0 rfl sbn)))) ?_
          replace h := ih _ h
          exact h ha2 (Vn_in e_v8)
def lb_FP_nearRivals_15 (c1 : Nat) (S : St) (go : Int × Int → Option (Int)) (a2 : Int) (a3 : Int) : Option (Int) := if (g S c1 7) ≤ a3 then (some a2) else (nm (wr (a3 + 1)) fun v1 => bnO (lo_FP_nearRivals_28 c1 a3 S FU (a2, v1)) fun p18 => nm (wr (a3 + 1)) fun v19 => go (p18, v19))
def lo_FP_nearRivals_15 (c1 : Nat) (S : St) : Nat → Int × Int → Option (Int) := lp fun go p => lb_FP_nearRivals_15 c1 S go p.1 p.2
theorem tl_FP_nearRivals_15 {E : EV} {X : XT} {c1 : Nat} (hc1 : HC X 0 c1) {S : St} {K : RK → PS → Prop} {q : Int} (hx : inR q → Go E M_FP_nearRivals 0 0 106 [(2, V q)] [] (WX X S) 0 0 K) : ∀ n a, lo_FP_nearRivals_15 c1 S n a = some q → inR a.1 → inR a.2 → Go E M_FP_nearRivals 0 0 15 [(1, .ref c1), (2, V a.1), (3, V a.2)] [] (WX X S) 0 0 K := by
  refine lp_ind (P := fun a : Int × Int => inR a.1 → inR a.2 → Go E M_FP_nearRivals 0 0 15 [(1, .ref c1), (2, V a.1), (3, V a.2)] [] (WX X S) 0 0 K) (fun go ih a h => ?_)
  obtain ⟨a2, a3⟩ := a
  intro ha2 ha3
  show Go E M_FP_nearRivals 0 0 15 [(1, .ref c1), (2, V a2), (3, V a3)] [] (WX X S) 0 0 K
  replace h : lb_FP_nearRivals_15 c1 S go a2 a3 = some q := h
  unfold lb_FP_nearRivals_15 at h
  refine g_iloadn (pc := 15) (i0 := 3) (j := 2) (dK D_FP_nearRivals_0 9 rfl) rfl rfl ?_
  refine g_aloadn (pc := 16) (i0 := 1) (j := 0) (dK D_FP_nearRivals_0 10 rfl) rfl rfl ?_
  refine vg_getI (pc := 17) (ci := 0) (f := 7) (dK D_FP_nearRivals_0 11 rfl) q_120 hc1 (ltK rfl) (ltK rfl) rfl ?_
  refine vg_icmp_ge (pc := 20) (t := 106) (dK D_FP_nearRivals_0 12 rfl) rfl ha3 (g_in _ _ _) (fun hc20 => ?_) (fun hc20 => ?_)
  · replace h := ifP h hc20
    obtain rfl := Option.some.inj h
    refine gL_weak (ls' := [(2, V a2)]) (sbc 1 rfl sbn) ?_
    exact hx ha2
  · replace h := ifN h hc20
    refine g_iloadn (pc := 23) (i0 := 3) (j := 2) (dK D_FP_nearRivals_0 13 rfl) rfl rfl ?_
    refine vg_iconst (pc := 24) (dK D_FP_nearRivals_0 14 rfl) ?_
    refine vg_iadd (pc := 25) (dK D_FP_nearRivals_0 15 rfl) ?_
    refine nmE h (fun v1 e_v1 h => ?_)
    refine gtop e_v1 ?_
    refine g_istore (pc := 26) (ls2 := [(4, V v1), (1, .ref c1), (2, V a2), (3, V a3)]) (dK D_FP_nearRivals_0 16 rfl) (ltK rfl) rfl ?_
    refine bnE h (fun p18 e_p18 h => ?_)
    refine gL_weak (ls' := [(1, .ref c1), (2, V a2), (3, V a3), (4, V v1)]) (sbc 1 rfl (sbc 2 rfl (sbc 3 rfl (sbc 0 rfl sbn)))) ?_
    refine tl_FP_nearRivals_28 hc1 ha3 (fun hx2_p18 => ?_) FU (a2, v1) e_p18 ha2 (Vn_in e_v1)
    refine nmE h (fun v19 e_v19 h => ?_)
    refine vg_iinc (pc := 100) (j := 2) (a := a3) (z := 1) (ls2 := [(3, V v19), (1, .ref c1), (2, V p18)]) (dK D_FP_nearRivals_1 5 rfl) rfl e_v19 (ltK rfl) rfl ?_
    refine g_goto (pc := 103) (tgt := 15) (dK D_FP_nearRivals_1 6 rfl) rfl ?_
    refine gL_weak (ls' := [(1, .ref c1), (2, V p18), (3, V v19)]) (sbc 1 rfl (sbc 2 rfl (sbc 0 rfl sbn))) ?_
    replace h := ih _ h
    exact h hx2_p18 (Vn_in e_v19)
def fn_FP_nearRivals (c0 : Nat) (S : St) : Option (Int) := bnO (lo_FP_nearRivals_15 (tgt (tgt (tgt c0 3) 0) 0) S FU (0, 0)) fun p21 => some p21
theorem tf_FP_nearRivals {E : EV} {X : XT} {c0 : Nat} (hc0 : HC X 10 c0) {S : St} {q : Int} (h : fn_FP_nearRivals c0 S = some q) : Ev E M_FP_nearRivals [.ref c0] (WX X S) 0 0 (KI X q S) := by
  refine Ev.of pn_FP rfl (leK rfl) ?_
  show Go E M_FP_nearRivals 0 0 0 [(0, .ref c0)] [] (WX X S) 0 0 (KI X q S)
  unfold fn_FP_nearRivals at h
  refine g_aloadn (pc := 0) (i0 := 0) (j := 0) (dK D_FP_nearRivals_0 0 rfl) rfl rfl ?_
  refine vg_getO (pc := 1) (ci := 10) (f := 3) (dK D_FP_nearRivals_0 1 rfl) q_436 hc0 (ltK rfl) (ltK rfl) rfl ?_
  refine vg_getO (pc := 4) (ci := 4) (f := 0) (dK D_FP_nearRivals_0 2 rfl) q_303 (hw_10_3 hc0) (ltK rfl) (ltK rfl) rfl ?_
  refine vg_getO (pc := 7) (ci := 8) (f := 0) (dK D_FP_nearRivals_0 3 rfl) q_235 (hw_4_0 (hw_10_3 hc0)) (ltK rfl) (ltK rfl) rfl ?_
  refine g_astoren (pc := 10) (i0 := 1) (ls2 := [(1, .ref (tgt (tgt (tgt c0 3) 0) 0)), (0, .ref c0)]) (dK D_FP_nearRivals_0 4 rfl) rfl (ltK rfl) rfl ?_
  refine vg_iconst (pc := 11) (dK D_FP_nearRivals_0 5 rfl) ?_
  refine g_istoren (pc := 12) (i0 := 2) (ls2 := [(2, V 0), (1, .ref (tgt (tgt (tgt c0 3) 0) 0)), (0, .ref c0)]) (dK D_FP_nearRivals_0 6 rfl) rfl (ltK rfl) rfl ?_
  refine vg_iconst (pc := 13) (dK D_FP_nearRivals_0 7 rfl) ?_
  refine g_istoren (pc := 14) (i0 := 3) (ls2 := [(3, V 0), (2, V 0), (1, .ref (tgt (tgt (tgt c0 3) 0) 0)), (0, .ref c0)]) (dK D_FP_nearRivals_0 8 rfl) rfl (ltK rfl) rfl ?_
  refine bnE h (fun p21 e_p21 h => ?_)
  refine gL_weak (ls' := [(1, .ref (tgt (tgt (tgt c0 3) 0) 0)), (2, V 0), (3, V 0)]) (sbc 2 rfl (sbc 1 rfl (sbc 0 rfl sbn))) ?_
  refine tl_FP_nearRivals_15 (hw_8_0 (hw_4_0 (hw_10_3 hc0))) (fun hx2_p21 => ?_) FU (0, 0) e_p21 (inRk rfl) (inRk rfl)
  refine g_iloadn (pc := 106) (i0 := 2) (j := 0) (dK D_FP_nearRivals_1 7 rfl) rfl rfl ?_
  exact vg_iretI (pc := 107) (r := p21) (dK D_FP_nearRivals_1 8 rfl) rfl (leK rfl) (leK rfl) (fun _ => rfl) (by obtain rfl := Option.some.inj h; exact ⟨rfl, hx2_p21, rfl⟩)
def fn_Searches_adIsOpen (c0 : Nat) (a1 : Int) (S : St) : Option (Bool) := if 0 ≤ a1 ∧ a1 < 40 then (if (g S (tgt (tgt (tgt c0 1) 0) 6) a1.toNat) = 0 then (some false) else (bnO (fn_Plan_isPrinted (tgt c0 0) (g S (tgt (tgt (tgt c0 1) 0) 6) a1.toNat) S) fun p2 => if p2 = true then (some false) else (some true))) else none
theorem tf_Searches_adIsOpen {E : EV} {X : XT} {c0 : Nat} (hc0 : HC X 6 c0) {a1 : Int} (ha1 : inR a1) {S : St} {q : Bool} (h : fn_Searches_adIsOpen c0 a1 S = some q) : Ev E M_Searches_adIsOpen [.ref c0, V a1] (WX X S) 0 0 (KB X q S) := by
  refine Ev.of pn_Searches rfl (leK rfl) ?_
  show Go E M_Searches_adIsOpen 0 0 0 [(0, .ref c0), (1, V a1)] [] (WX X S) 0 0 (KB X q S)
  unfold fn_Searches_adIsOpen at h
  refine g_aloadn (pc := 0) (i0 := 0) (j := 0) (dK D_Searches_adIsOpen 0 rfl) rfl rfl ?_
  refine vg_getO (pc := 1) (ci := 6) (f := 1) (dK D_Searches_adIsOpen 1 rfl) q_381 hc0 (ltK rfl) (ltK rfl) rfl ?_
  refine vg_getO (pc := 4) (ci := 8) (f := 0) (dK D_Searches_adIsOpen 2 rfl) q_232 (hw_6_1 hc0) (ltK rfl) (ltK rfl) rfl ?_
  refine vg_getA (pc := 7) (ci := 0) (f := 6) (dK D_Searches_adIsOpen 3 rfl) q_112 (hw_8_0 (hw_6_1 hc0)) (ltK rfl) (ltK rfl) rfl ?_
  refine g_iloadn (pc := 10) (i0 := 1) (j := 1) (dK D_Searches_adIsOpen 4 rfl) rfl rfl ?_
  refine gdE h (fun hi1 h => ?_)
  refine vg_iaload (pc := 11) (j := a1.toNat) (dK D_Searches_adIsOpen 5 rfl) (hw_0_6 (hw_8_0 (hw_6_1 hc0))) rfl hi1 rfl ?_
  refine vg_if_eq (pc := 12) (t := 41) (dK D_Searches_adIsOpen 6 rfl) rfl (g_in _ _ _) (fun hc4 => ?_) (fun hc4 => ?_)
  · replace h := ifP h hc4
    refine vg_iconst (pc := 41) (dK D_Searches_adIsOpen 19 rfl) ?_
    exact vg_iretB (pc := 42) (b := false) (dK D_Searches_adIsOpen 20 rfl) rfl (leK rfl) (leK rfl) (fun _ => rfl) (by obtain rfl := Option.some.inj h; exact ⟨rfl, rfl⟩)
  · replace h := ifN h hc4
    refine g_aloadn (pc := 15) (i0 := 0) (j := 0) (dK D_Searches_adIsOpen 7 rfl) rfl rfl ?_
    refine vg_getO (pc := 16) (ci := 6) (f := 0) (dK D_Searches_adIsOpen 8 rfl) q_379 hc0 (ltK rfl) (ltK rfl) rfl ?_
    refine g_aloadn (pc := 19) (i0 := 0) (j := 0) (dK D_Searches_adIsOpen 9 rfl) rfl rfl ?_
    refine vg_getO (pc := 20) (ci := 6) (f := 1) (dK D_Searches_adIsOpen 10 rfl) q_381 hc0 (ltK rfl) (ltK rfl) rfl ?_
    refine vg_getO (pc := 23) (ci := 8) (f := 0) (dK D_Searches_adIsOpen 11 rfl) q_232 (hw_6_1 hc0) (ltK rfl) (ltK rfl) rfl ?_
    refine vg_getA (pc := 26) (ci := 0) (f := 6) (dK D_Searches_adIsOpen 12 rfl) q_112 (hw_8_0 (hw_6_1 hc0)) (ltK rfl) (ltK rfl) rfl ?_
    refine g_iloadn (pc := 29) (i0 := 1) (j := 1) (dK D_Searches_adIsOpen 13 rfl) rfl rfl ?_
    refine vg_iaload (pc := 30) (j := a1.toNat) (dK D_Searches_adIsOpen 14 rfl) (hw_0_6 (hw_8_0 (hw_6_1 hc0))) rfl hi1 rfl ?_
    refine bnE h (fun p2 e_p2 h => ?_)
    refine vg_cV (pc := 31) (As := [V (g S (tgt (tgt (tgt c0 1) 0) 6) a1.toNat)]) (rest := []) (mc' := 0) (ms' := 0) (dK D_Searches_adIsOpen 15 rfl) K_Searches_127 (fitK rfl) (ltK rfl) (hw_6_0 hc0) rfl (leK rfl) (leK rfl) (leK rfl) (tf_Plan_isPrinted (hw_6_0 hc0) (g_in _ _ _) e_p2) (kcB ?_)
    refine vg_ifB_ne (pc := 34) (b := p2) (t := 41) (dK D_Searches_adIsOpen 16 rfl) rfl (fun hc3 => ?_) (fun hc3 => ?_)
    · replace h := ifP h hc3
      refine vg_iconst (pc := 41) (dK D_Searches_adIsOpen 19 rfl) ?_
      exact vg_iretB (pc := 42) (b := false) (dK D_Searches_adIsOpen 20 rfl) rfl (leK rfl) (leK rfl) (fun _ => rfl) (by obtain rfl := Option.some.inj h; exact ⟨rfl, rfl⟩)
    · replace h := ifN h hc3
      refine vg_iconst (pc := 37) (dK D_Searches_adIsOpen 17 rfl) ?_
      refine g_goto (pc := 38) (tgt := 42) (dK D_Searches_adIsOpen 18 rfl) rfl ?_
      exact vg_iretB (pc := 42) (b := true) (dK D_Searches_adIsOpen 20 rfl) rfl (leK rfl) (leK rfl) (fun _ => rfl) (by obtain rfl := Option.some.inj h; exact ⟨rfl, rfl⟩)
def fn_Searches_rankOf (a0 : Int) (a1 : Int) (S : St) : Option (Int) := some (wr ((200 * a0) + a1))
theorem tf_Searches_rankOf {E : EV} {X : XT} {a0 : Int} (ha0 : inR a0) {a1 : Int} (ha1 : inR a1) {S : St} {q : Int} (h : fn_Searches_rankOf a0 a1 S = some q) : Ev E M_Searches_rankOf [V a0, V a1] (WX X S) 0 0 (KI X q S) := by
  refine Ev.of pn_Searches rfl (leK rfl) ?_
  show Go E M_Searches_rankOf 0 0 0 [(0, V a0), (1, V a1)] [] (WX X S) 0 0 (KI X q S)
  unfold fn_Searches_rankOf at h
  refine vg_sipush (pc := 0) (dK D_Searches_rankOf 0 rfl) rfl ?_
  refine g_iloadn (pc := 3) (i0 := 0) (j := 0) (dK D_Searches_rankOf 1 rfl) rfl rfl ?_
  refine vg_imul (pc := 4) (dK D_Searches_rankOf 2 rfl) ?_
  refine g_iloadn (pc := 5) (i0 := 1) (j := 1) (dK D_Searches_rankOf 3 rfl) rfl rfl ?_
  refine vg_iadd (pc := 6) (dK D_Searches_rankOf 4 rfl) ?_
  refine gtop (x := (wr ((200 * a0) + a1))) rfl ?_
  exact vg_iretI (pc := 7) (r := (wr ((200 * a0) + a1))) (dK D_Searches_rankOf 5 rfl) rfl (leK rfl) (leK rfl) (fun _ => rfl) (by obtain rfl := Option.some.inj h; exact ⟨rfl, (wr_in _), rfl⟩)
def fn_Searches_nearerRank (a0 : Int) (a1 : Int) (a2 : Int) (S : St) : Option (Int) := if a2 ≤ a0 then (some a1) else (if a1 = (-1) then (some a2) else (if a1 ≤ a2 then (some a1) else (some a2)))
theorem tf_Searches_nearerRank {E : EV} {X : XT} {a0 : Int} (ha0 : inR a0) {a1 : Int} (ha1 : inR a1) {a2 : Int} (ha2 : inR a2) {S : St} {q : Int} (h : fn_Searches_nearerRank a0 a1 a2 S = some q) : Ev E M_Searches_nearerRank [V a0, V a1, V a2] (WX X S) 0 0 (KI X q S) := by
  refine Ev.of pn_Searches rfl (leK rfl) ?_
  show Go E M_Searches_nearerRank 0 0 0 [(0, V a0), (1, V a1), (2, V a2)] [] (WX X S) 0 0 (KI X q S)
  unfold fn_Searches_nearerRank at h
  refine g_iloadn (pc := 0) (i0 := 2) (j := 2) (dK D_Searches_nearerRank 0 rfl) rfl rfl ?_
  refine g_iloadn (pc := 1) (i0 := 0) (j := 0) (dK D_Searches_nearerRank 1 rfl) rfl rfl ?_
  refine vg_icmp_le (pc := 2) (t := 19) (dK D_Searches_nearerRank 2 rfl) rfl ha2 ha0 (fun hc3 => ?_) (fun hc3 => ?_)
  · replace h := ifP h hc3
    refine g_iloadn (pc := 19) (i0 := 1) (j := 1) (dK D_Searches_nearerRank 11 rfl) rfl rfl ?_
    exact vg_iretI (pc := 20) (r := a1) (dK D_Searches_nearerRank 12 rfl) rfl (leK rfl) (leK rfl) (fun _ => rfl) (by obtain rfl := Option.some.inj h; exact ⟨rfl, ha1, rfl⟩)
  · replace h := ifN h hc3
    refine g_iloadn (pc := 5) (i0 := 1) (j := 1) (dK D_Searches_nearerRank 3 rfl) rfl rfl ?_
    refine vg_iconst (pc := 6) (dK D_Searches_nearerRank 4 rfl) ?_
    refine vg_icmp_eq (pc := 7) (t := 15) (dK D_Searches_nearerRank 5 rfl) rfl ha1 (inRk rfl) (fun hc2 => ?_) (fun hc2 => ?_)
    · replace h := ifP h hc2
      refine g_iloadn (pc := 15) (i0 := 2) (j := 2) (dK D_Searches_nearerRank 9 rfl) rfl rfl ?_
      refine g_goto (pc := 16) (tgt := 20) (dK D_Searches_nearerRank 10 rfl) rfl ?_
      exact vg_iretI (pc := 20) (r := a2) (dK D_Searches_nearerRank 12 rfl) rfl (leK rfl) (leK rfl) (fun _ => rfl) (by obtain rfl := Option.some.inj h; exact ⟨rfl, ha2, rfl⟩)
    · replace h := ifN h hc2
      refine g_iloadn (pc := 10) (i0 := 2) (j := 2) (dK D_Searches_nearerRank 6 rfl) rfl rfl ?_
      refine g_iloadn (pc := 11) (i0 := 1) (j := 1) (dK D_Searches_nearerRank 7 rfl) rfl rfl ?_
      refine vg_icmp_ge (pc := 12) (t := 19) (dK D_Searches_nearerRank 8 rfl) rfl ha2 ha1 (fun hc1 => ?_) (fun hc1 => ?_)
      · replace h := ifP h hc1
        refine g_iloadn (pc := 19) (i0 := 1) (j := 1) (dK D_Searches_nearerRank 11 rfl) rfl rfl ?_
        exact vg_iretI (pc := 20) (r := a1) (dK D_Searches_nearerRank 12 rfl) rfl (leK rfl) (leK rfl) (fun _ => rfl) (by obtain rfl := Option.some.inj h; exact ⟨rfl, ha1, rfl⟩)
      · replace h := ifN h hc1
        refine g_iloadn (pc := 15) (i0 := 2) (j := 2) (dK D_Searches_nearerRank 9 rfl) rfl rfl ?_
        refine g_goto (pc := 16) (tgt := 20) (dK D_Searches_nearerRank 10 rfl) rfl ?_
        exact vg_iretI (pc := 20) (r := a2) (dK D_Searches_nearerRank 12 rfl) rfl (leK rfl) (leK rfl) (fun _ => rfl) (by obtain rfl := Option.some.inj h; exact ⟨rfl, ha2, rfl⟩)
def lb_Plan_storyIsOnFormThat_2 (c0 : Nat) (a1 : Int) (a2 : Int) (S : St) (go : Int → Option ((Bool) ⊕ (Unit))) (a3 : Int) : Option ((Bool) ⊕ (Unit)) := if (g S c0 2) ≤ a3 then (some (.inr ())) else (if 0 ≤ a3 ∧ a3 < 8 then (if (g S (tgt (tgt (tgt c0 0) 3) 1) a3.toNat) = a2 then (bnO (fn_Plan_storyIsOn c0 a1 a3 S) fun p3 => if p3 = true then (some (.inl true)) else (nm (wr (a3 + 1)) fun v5 => go v5)) else (nm (wr (a3 + 1)) fun v2 => go v2)) else none)
def lo_Plan_storyIsOnFormThat_2 (c0 : Nat) (a1 : Int) (a2 : Int) (S : St) : Nat → Int → Option ((Bool) ⊕ (Unit)) := lp fun go p => lb_Plan_storyIsOnFormThat_2 c0 a1 a2 S go p
theorem tl_Plan_storyIsOnFormThat_2 {E : EV} {X : XT} {c0 : Nat} (hc0 : HC X 4 c0) {a1 : Int} (ha1 : inR a1) {a2 : Int} (ha2 : inR a2) {S : St} {K : RK → PS → Prop} {q : (Bool) ⊕ (Unit)} (hx : ∀ p, q = .inr p → Go E M_Plan_storyIsOnFormThat 0 0 43 [] [] (WX X S) 0 0 K) (hr : ∀ p, q = .inl p → K (.inl (some (V (bi p)))) (WX X S)) : ∀ n a, lo_Plan_storyIsOnFormThat_2 c0 a1 a2 S n a = some q → inR a → Go E M_Plan_storyIsOnFormThat 0 0 2 [(0, .ref c0), (1, V a1), (2, V a2), (3, V a)] [] (WX X S) 0 0 K := by
  refine lp_ind (P := fun a : Int => inR a → Go E M_Plan_storyIsOnFormThat 0 0 2 [(0, .ref c0), (1, V a1), (2, V a2), (3, V a)] [] (WX X S) 0 0 K) (fun go ih a3 h => ?_)
  intro ha3
  show Go E M_Plan_storyIsOnFormThat 0 0 2 [(0, .ref c0), (1, V a1), (2, V a2), (3, V a3)] [] (WX X S) 0 0 K
  replace h : lb_Plan_storyIsOnFormThat_2 c0 a1 a2 S go a3 = some q := h
  unfold lb_Plan_storyIsOnFormThat_2 at h
  refine g_iloadn (pc := 2) (i0 := 3) (j := 3) (dK D_Plan_storyIsOnFormThat 2 rfl) rfl rfl ?_
  refine g_aloadn (pc := 3) (i0 := 0) (j := 0) (dK D_Plan_storyIsOnFormThat 3 rfl) rfl rfl ?_
  refine vg_getI (pc := 4) (ci := 4) (f := 2) (dK D_Plan_storyIsOnFormThat 4 rfl) q_309 hc0 (ltK rfl) (ltK rfl) rfl ?_
  refine vg_icmp_ge (pc := 7) (t := 43) (dK D_Plan_storyIsOnFormThat 5 rfl) rfl ha3 (g_in _ _ _) (fun hc7 => ?_) (fun hc7 => ?_)
  · replace h := ifP h hc7
    refine gL_weak (ls' := []) sbn ?_
    exact hx _ (Option.some.inj h).symm 
  · replace h := ifN h hc7
    refine g_aloadn (pc := 10) (i0 := 0) (j := 0) (dK D_Plan_storyIsOnFormThat 6 rfl) rfl rfl ?_
    refine vg_getO (pc := 11) (ci := 4) (f := 0) (dK D_Plan_storyIsOnFormThat 7 rfl) q_301 hc0 (ltK rfl) (ltK rfl) rfl ?_
    refine vg_getO (pc := 14) (ci := 8) (f := 3) (dK D_Plan_storyIsOnFormThat 8 rfl) q_246 (hw_4_0 hc0) (ltK rfl) (ltK rfl) rfl ?_
    refine vg_getA (pc := 17) (ci := 2) (f := 1) (dK D_Plan_storyIsOnFormThat 9 rfl) q_217 (hw_8_3 (hw_4_0 hc0)) (ltK rfl) (ltK rfl) rfl ?_
    refine g_iloadn (pc := 20) (i0 := 3) (j := 3) (dK D_Plan_storyIsOnFormThat 10 rfl) rfl rfl ?_
    refine gdE h (fun hi1 h => ?_)
    refine vg_iaload (pc := 21) (j := a3.toNat) (dK D_Plan_storyIsOnFormThat 11 rfl) (hw_2_1 (hw_8_3 (hw_4_0 hc0))) rfl hi1 rfl ?_
    refine g_iloadn (pc := 22) (i0 := 2) (j := 2) (dK D_Plan_storyIsOnFormThat 12 rfl) rfl rfl ?_
    refine vg_icmp_ne (pc := 23) (t := 37) (dK D_Plan_storyIsOnFormThat 13 rfl) rfl (g_in _ _ _) ha2 (fun hc6 => ?_) (fun hc6 => ?_)
    · replace h := ifN h hc6
      refine nmE h (fun v2 e_v2 h => ?_)
      refine vg_iinc (pc := 37) (j := 3) (a := a3) (z := 1) (ls2 := [(3, V v2), (0, .ref c0), (1, V a1), (2, V a2)]) (dK D_Plan_storyIsOnFormThat 21 rfl) rfl e_v2 (ltK rfl) rfl ?_
      refine g_goto (pc := 40) (tgt := 2) (dK D_Plan_storyIsOnFormThat 22 rfl) rfl ?_
      refine gL_weak (ls' := [(0, .ref c0), (1, V a1), (2, V a2), (3, V v2)]) (sbc 1 rfl (sbc 2 rfl (sbc 3 rfl (sbc 0 rfl sbn)))) ?_
      replace h := ih _ h
      exact h (Vn_in e_v2)
    · replace h := ifP h hc6
      refine g_aloadn (pc := 26) (i0 := 0) (j := 0) (dK D_Plan_storyIsOnFormThat 14 rfl) rfl rfl ?_
      refine g_iloadn (pc := 27) (i0 := 1) (j := 1) (dK D_Plan_storyIsOnFormThat 15 rfl) rfl rfl ?_
      refine g_iloadn (pc := 28) (i0 := 3) (j := 3) (dK D_Plan_storyIsOnFormThat 16 rfl) rfl rfl ?_
      refine bnE h (fun p3 e_p3 h => ?_)
      refine vg_cV (pc := 29) (As := [V a1, V a3]) (rest := []) (mc' := 0) (ms' := 0) (dK D_Plan_storyIsOnFormThat 17 rfl) K_Plan_180 (fitK rfl) (ltK rfl) hc0 rfl (leK rfl) (leK rfl) (leK rfl) (tf_Plan_storyIsOn hc0 ha1 ha3 e_p3) (kcB ?_)
      refine vg_ifB_eq (pc := 32) (b := p3) (t := 37) (dK D_Plan_storyIsOnFormThat 18 rfl) rfl (fun hc4 => ?_) (fun hc4 => ?_)
      · replace h := ifP h hc4
        refine vg_iconst (pc := 35) (dK D_Plan_storyIsOnFormThat 19 rfl) ?_
        exact vg_iretB (pc := 36) (b := true) (dK D_Plan_storyIsOnFormThat 20 rfl) rfl (leK rfl) (leK rfl) (fun _ => rfl) (hr _ (Option.some.inj h).symm)
      · replace h := ifN h hc4
        refine nmE h (fun v5 e_v5 h => ?_)
        refine vg_iinc (pc := 37) (j := 3) (a := a3) (z := 1) (ls2 := [(3, V v5), (0, .ref c0), (1, V a1), (2, V a2)]) (dK D_Plan_storyIsOnFormThat 21 rfl) rfl e_v5 (ltK rfl) rfl ?_
        refine g_goto (pc := 40) (tgt := 2) (dK D_Plan_storyIsOnFormThat 22 rfl) rfl ?_
        refine gL_weak (ls' := [(0, .ref c0), (1, V a1), (2, V a2), (3, V v5)]) (sbc 1 rfl (sbc 2 rfl (sbc 3 rfl (sbc 0 rfl sbn)))) ?_
        replace h := ih _ h
        exact h (Vn_in e_v5)
def fn_Plan_storyIsOnFormThat (c0 : Nat) (a1 : Int) (a2 : Int) (S : St) : Option (Bool) := bnS (lo_Plan_storyIsOnFormThat_2 c0 a1 a2 S FU 0) (fun p9 => some p9) fun p8 => some false
theorem tf_Plan_storyIsOnFormThat {E : EV} {X : XT} {c0 : Nat} (hc0 : HC X 4 c0) {a1 : Int} (ha1 : inR a1) {a2 : Int} (ha2 : inR a2) {S : St} {q : Bool} (h : fn_Plan_storyIsOnFormThat c0 a1 a2 S = some q) : Ev E M_Plan_storyIsOnFormThat [.ref c0, V a1, V a2] (WX X S) 0 0 (KB X q S) := by
  refine Ev.of pn_Plan rfl (leK rfl) ?_
  show Go E M_Plan_storyIsOnFormThat 0 0 0 [(0, .ref c0), (1, V a1), (2, V a2)] [] (WX X S) 0 0 (KB X q S)
  unfold fn_Plan_storyIsOnFormThat at h
  refine vg_iconst (pc := 0) (dK D_Plan_storyIsOnFormThat 0 rfl) ?_
  refine g_istoren (pc := 1) (i0 := 3) (ls2 := [(3, V 0), (0, .ref c0), (1, V a1), (2, V a2)]) (dK D_Plan_storyIsOnFormThat 1 rfl) rfl (ltK rfl) rfl ?_
  refine bnSE h (fun p9 e_p9 h => ?_) (fun p8 e_p8 h => ?_)
  · refine gL_weak (ls' := [(0, .ref c0), (1, V a1), (2, V a2), (3, V 0)]) (sbc 1 rfl (sbc 2 rfl (sbc 3 rfl (sbc 0 rfl sbn)))) ?_
    refine tl_Plan_storyIsOnFormThat_2 hc0 ha1 ha2 (fun _ e => slr e) (fun p e => ?_) FU 0 e_p9 (inRk rfl)
    have e := Sum.inl.inj e
    subst e
    exact (by obtain rfl := Option.some.inj h; exact ⟨rfl, rfl⟩)
  · refine gL_weak (ls' := [(0, .ref c0), (1, V a1), (2, V a2), (3, V 0)]) (sbc 1 rfl (sbc 2 rfl (sbc 3 rfl (sbc 0 rfl sbn)))) ?_
    refine tl_Plan_storyIsOnFormThat_2 hc0 ha1 ha2 (fun p e => ?_) (fun _ e => srl e) FU 0 e_p8 (inRk rfl)
    have e := Sum.inr.inj e
    subst e
    refine vg_iconst (pc := 43) (dK D_Plan_storyIsOnFormThat 23 rfl) ?_
    exact vg_iretB (pc := 44) (b := false) (dK D_Plan_storyIsOnFormThat 24 rfl) rfl (leK rfl) (leK rfl) (fun _ => rfl) (by obtain rfl := Option.some.inj h; exact ⟨rfl, rfl⟩)
def fn_Plan_storyIsOpen (c0 : Nat) (a1 : Int) (S : St) : Option (Bool) := bnO (fn_Plan_storyIsOnFormThat c0 a1 0 S) fun p1 => some p1
theorem tf_Plan_storyIsOpen {E : EV} {X : XT} {c0 : Nat} (hc0 : HC X 4 c0) {a1 : Int} (ha1 : inR a1) {S : St} {q : Bool} (h : fn_Plan_storyIsOpen c0 a1 S = some q) : Ev E M_Plan_storyIsOpen [.ref c0, V a1] (WX X S) 0 0 (KB X q S) := by
  refine Ev.of pn_Plan rfl (leK rfl) ?_
  show Go E M_Plan_storyIsOpen 0 0 0 [(0, .ref c0), (1, V a1)] [] (WX X S) 0 0 (KB X q S)
  unfold fn_Plan_storyIsOpen at h
  refine g_aloadn (pc := 0) (i0 := 0) (j := 0) (dK D_Plan_storyIsOpen 0 rfl) rfl rfl ?_
  refine g_iloadn (pc := 1) (i0 := 1) (j := 1) (dK D_Plan_storyIsOpen 1 rfl) rfl rfl ?_
  refine vg_iconst (pc := 2) (dK D_Plan_storyIsOpen 2 rfl) ?_
  refine bnE h (fun p1 e_p1 h => ?_)
  refine vg_cV (pc := 3) (As := [V a1, V 0]) (rest := []) (mc' := 0) (ms' := 0) (dK D_Plan_storyIsOpen 3 rfl) K_Plan_177 (fitK rfl) (ltK rfl) hc0 rfl (leK rfl) (leK rfl) (leK rfl) (tf_Plan_storyIsOnFormThat hc0 ha1 (inRk rfl) e_p1) (kcB ?_)
  exact vg_iretB (pc := 6) (b := p1) (dK D_Plan_storyIsOpen 4 rfl) rfl (leK rfl) (leK rfl) (fun _ => rfl) (by obtain rfl := Option.some.inj h; exact ⟨rfl, rfl⟩)
def lb_Searches_nextLateRank_4 (c0 : Nat) (a1 : Int) (S : St) (go : Int × Int → Option (Int)) (a2 : Int) (a3 : Int) : Option (Int) := if (g S (tgt (tgt c0 1) 0) 7) ≤ a3 then (some a2) else (bnO (fn_Searches_adIsOpen c0 a3 S) fun p1 => if p1 = true then (if 0 ≤ a3 ∧ a3 < 40 then (bnO (fn_Plan_isLate (tgt c0 0) (g S (tgt (tgt (tgt c0 1) 0) 5) a3.toNat) S) fun p5 => if p5 = true then (bnO (fn_Searches_rankOf (g S (tgt (tgt (tgt c0 1) 0) 5) a3.toNat) a3 S) fun p8 => bnO (fn_Searches_nearerRank a1 a2 p8 S) fun p9 => nm (wr (a3 + 1)) fun v10 => go (p9, v10)) else (nm (wr (a3 + 1)) fun v7 => go (a2, v7))) else none) else (nm (wr (a3 + 1)) fun v3 => go (a2, v3)))
def lo_Searches_nextLateRank_4 (c0 : Nat) (a1 : Int) (S : St) : Nat → Int × Int → Option (Int) := lp fun go p => lb_Searches_nextLateRank_4 c0 a1 S go p.1 p.2
theorem tl_Searches_nextLateRank_4 {E : EV} {X : XT} {c0 : Nat} (hc0 : HC X 6 c0) {a1 : Int} (ha1 : inR a1) {S : St} {K : RK → PS → Prop} {q : Int} (hx : inR q → Go E M_Searches_nextLateRank 0 0 76 [(0, .ref c0), (1, V a1), (2, V q)] [] (WX X S) 0 0 K) : ∀ n a, lo_Searches_nextLateRank_4 c0 a1 S n a = some q → inR a.1 → inR a.2 → Go E M_Searches_nextLateRank 0 0 4 [(0, .ref c0), (1, V a1), (2, V a.1), (3, V a.2)] [] (WX X S) 0 0 K := by
  refine lp_ind (P := fun a : Int × Int => inR a.1 → inR a.2 → Go E M_Searches_nextLateRank 0 0 4 [(0, .ref c0), (1, V a1), (2, V a.1), (3, V a.2)] [] (WX X S) 0 0 K) (fun go ih a h => ?_)
  obtain ⟨a2, a3⟩ := a
  intro ha2 ha3
  show Go E M_Searches_nextLateRank 0 0 4 [(0, .ref c0), (1, V a1), (2, V a2), (3, V a3)] [] (WX X S) 0 0 K
  replace h : lb_Searches_nextLateRank_4 c0 a1 S go a2 a3 = some q := h
  unfold lb_Searches_nextLateRank_4 at h
  refine g_iloadn (pc := 4) (i0 := 3) (j := 3) (dK D_Searches_nextLateRank_0 4 rfl) rfl rfl ?_
  refine g_aloadn (pc := 5) (i0 := 0) (j := 0) (dK D_Searches_nextLateRank_0 5 rfl) rfl rfl ?_
  refine vg_getO (pc := 6) (ci := 6) (f := 1) (dK D_Searches_nextLateRank_0 6 rfl) q_381 hc0 (ltK rfl) (ltK rfl) rfl ?_
  refine vg_getO (pc := 9) (ci := 8) (f := 0) (dK D_Searches_nextLateRank_0 7 rfl) q_232 (hw_6_1 hc0) (ltK rfl) (ltK rfl) rfl ?_
  refine vg_getI (pc := 12) (ci := 0) (f := 7) (dK D_Searches_nextLateRank_0 8 rfl) q_117 (hw_8_0 (hw_6_1 hc0)) (ltK rfl) (ltK rfl) rfl ?_
  refine vg_icmp_ge (pc := 15) (t := 76) (dK D_Searches_nextLateRank_0 9 rfl) rfl ha3 (g_in _ _ _) (fun hc11 => ?_) (fun hc11 => ?_)
  · replace h := ifP h hc11
    obtain rfl := Option.some.inj h
    refine gL_weak (ls' := [(0, .ref c0), (1, V a1), (2, V a2)]) (sbc 0 rfl (sbc 1 rfl (sbc 2 rfl sbn))) ?_
    exact hx ha2
  · replace h := ifN h hc11
    refine g_aloadn (pc := 18) (i0 := 0) (j := 0) (dK D_Searches_nextLateRank_0 10 rfl) rfl rfl ?_
    refine g_iloadn (pc := 19) (i0 := 3) (j := 3) (dK D_Searches_nextLateRank_0 11 rfl) rfl rfl ?_
    refine bnE h (fun p1 e_p1 h => ?_)
    refine vg_cV (pc := 20) (As := [V a3]) (rest := []) (mc' := 0) (ms' := 0) (dK D_Searches_nextLateRank_0 12 rfl) K_Searches_204 (fitK rfl) (ltK rfl) hc0 rfl (leK rfl) (leK rfl) (leK rfl) (tf_Searches_adIsOpen hc0 ha3 e_p1) (kcB ?_)
    refine vg_ifB_eq (pc := 23) (b := p1) (t := 70) (dK D_Searches_nextLateRank_0 13 rfl) rfl (fun hc2 => ?_) (fun hc2 => ?_)
    · replace h := ifP h hc2
      refine g_aloadn (pc := 26) (i0 := 0) (j := 0) (dK D_Searches_nextLateRank_0 14 rfl) rfl rfl ?_
      refine vg_getO (pc := 27) (ci := 6) (f := 0) (dK D_Searches_nextLateRank_0 15 rfl) q_379 hc0 (ltK rfl) (ltK rfl) rfl ?_
      refine g_aloadn (pc := 30) (i0 := 0) (j := 0) (dK D_Searches_nextLateRank_0 16 rfl) rfl rfl ?_
      refine vg_getO (pc := 31) (ci := 6) (f := 1) (dK D_Searches_nextLateRank_0 17 rfl) q_381 hc0 (ltK rfl) (ltK rfl) rfl ?_
      refine vg_getO (pc := 34) (ci := 8) (f := 0) (dK D_Searches_nextLateRank_0 18 rfl) q_232 (hw_6_1 hc0) (ltK rfl) (ltK rfl) rfl ?_
      refine vg_getA (pc := 37) (ci := 0) (f := 5) (dK D_Searches_nextLateRank_0 19 rfl) q_109 (hw_8_0 (hw_6_1 hc0)) (ltK rfl) (ltK rfl) rfl ?_
      refine g_iloadn (pc := 40) (i0 := 3) (j := 3) (dK D_Searches_nextLateRank_0 20 rfl) rfl rfl ?_
      refine gdE h (fun hi4 h => ?_)
      refine vg_iaload (pc := 41) (j := a3.toNat) (dK D_Searches_nextLateRank_0 21 rfl) (hw_0_5 (hw_8_0 (hw_6_1 hc0))) rfl hi4 rfl ?_
      refine bnE h (fun p5 e_p5 h => ?_)
      refine vg_cV (pc := 42) (As := [V (g S (tgt (tgt (tgt c0 1) 0) 5) a3.toNat)]) (rest := []) (mc' := 0) (ms' := 0) (dK D_Searches_nextLateRank_0 22 rfl) K_Searches_210 (fitK rfl) (ltK rfl) (hw_6_0 hc0) rfl (leK rfl) (leK rfl) (leK rfl) (tf_Plan_isLate (hw_6_0 hc0) (g_in _ _ _) e_p5) (kcB ?_)
      refine vg_ifB_eq (pc := 45) (b := p5) (t := 70) (dK D_Searches_nextLateRank_0 23 rfl) rfl (fun hc6 => ?_) (fun hc6 => ?_)
      · replace h := ifP h hc6
        refine g_iloadn (pc := 48) (i0 := 1) (j := 1) (dK D_Searches_nextLateRank_0 24 rfl) rfl rfl ?_
        refine g_iloadn (pc := 49) (i0 := 2) (j := 2) (dK D_Searches_nextLateRank_0 25 rfl) rfl rfl ?_
        refine g_aloadn (pc := 50) (i0 := 0) (j := 0) (dK D_Searches_nextLateRank_0 26 rfl) rfl rfl ?_
        refine vg_getO (pc := 51) (ci := 6) (f := 1) (dK D_Searches_nextLateRank_0 27 rfl) q_381 hc0 (ltK rfl) (ltK rfl) rfl ?_
        refine vg_getO (pc := 54) (ci := 8) (f := 0) (dK D_Searches_nextLateRank_0 28 rfl) q_232 (hw_6_1 hc0) (ltK rfl) (ltK rfl) rfl ?_
        refine vg_getA (pc := 57) (ci := 0) (f := 5) (dK D_Searches_nextLateRank_0 29 rfl) q_109 (hw_8_0 (hw_6_1 hc0)) (ltK rfl) (ltK rfl) rfl ?_
        refine g_iloadn (pc := 60) (i0 := 3) (j := 3) (dK D_Searches_nextLateRank_0 30 rfl) rfl rfl ?_
        refine vg_iaload (pc := 61) (j := a3.toNat) (dK D_Searches_nextLateRank_0 31 rfl) (hw_0_5 (hw_8_0 (hw_6_1 hc0))) rfl hi4 rfl ?_
        refine g_iloadn (pc := 62) (i0 := 3) (j := 3) (dK D_Searches_nextLateRank_0 32 rfl) rfl rfl ?_
        refine bnE h (fun p8 e_p8 h => ?_)
        refine vg_cS (pc := 63) (As := [V (g S (tgt (tgt (tgt c0 1) 0) 5) a3.toNat), V a3]) (rest := [V a2, V a1]) (mc' := 0) (ms' := 0) (dK D_Searches_nextLateRank_0 33 rfl) K_Searches_213 (fitK rfl) rfl (leK rfl) (leK rfl) (leK rfl) (tf_Searches_rankOf (g_in _ _ _) ha3 e_p8) (kcI (fun h_p8 => ?_))
        refine bnE h (fun p9 e_p9 h => ?_)
        refine vg_cS (pc := 66) (As := [V a1, V a2, V p8]) (rest := []) (mc' := 0) (ms' := 0) (dK D_Searches_nextLateRank_0 34 rfl) K_Searches_216 (fitK rfl) rfl (leK rfl) (leK rfl) (leK rfl) (tf_Searches_nearerRank ha1 ha2 h_p8 e_p9) (kcI (fun h_p9 => ?_))
        refine g_istoren (pc := 69) (i0 := 2) (ls2 := [(2, V p9), (0, .ref c0), (1, V a1), (3, V a3)]) (dK D_Searches_nextLateRank_0 35 rfl) rfl (ltK rfl) rfl ?_
        refine nmE h (fun v10 e_v10 h => ?_)
        refine vg_iinc (pc := 70) (j := 3) (a := a3) (z := 1) (ls2 := [(3, V v10), (2, V p9), (0, .ref c0), (1, V a1)]) (dK D_Searches_nextLateRank_0 36 rfl) rfl e_v10 (ltK rfl) rfl ?_
        refine g_goto (pc := 73) (tgt := 4) (dK D_Searches_nextLateRank_0 37 rfl) rfl ?_
        refine gL_weak (ls' := [(0, .ref c0), (1, V a1), (2, V p9), (3, V v10)]) (sbc 2 rfl (sbc 3 rfl (sbc 1 rfl (sbc 0 rfl sbn)))) ?_
        replace h := ih _ h
        exact h h_p9 (Vn_in e_v10)
      · replace h := ifN h hc6
        refine nmE h (fun v7 e_v7 h => ?_)
        refine vg_iinc (pc := 70) (j := 3) (a := a3) (z := 1) (ls2 := [(3, V v7), (0, .ref c0), (1, V a1), (2, V a2)]) (dK D_Searches_nextLateRank_0 36 rfl) rfl e_v7 (ltK rfl) rfl ?_
        refine g_goto (pc := 73) (tgt := 4) (dK D_Searches_nextLateRank_0 37 rfl) rfl ?_
        refine gL_weak (ls' := [(0, .ref c0), (1, V a1), (2, V a2), (3, V v7)]) (sbc 1 rfl (sbc 2 rfl (sbc 3 rfl (sbc 0 rfl sbn)))) ?_
        replace h := ih _ h
        exact h ha2 (Vn_in e_v7)
    · replace h := ifN h hc2
      refine nmE h (fun v3 e_v3 h => ?_)
      refine vg_iinc (pc := 70) (j := 3) (a := a3) (z := 1) (ls2 := [(3, V v3), (0, .ref c0), (1, V a1), (2, V a2)]) (dK D_Searches_nextLateRank_0 36 rfl) rfl e_v3 (ltK rfl) rfl ?_
      refine g_goto (pc := 73) (tgt := 4) (dK D_Searches_nextLateRank_0 37 rfl) rfl ?_
      refine gL_weak (ls' := [(0, .ref c0), (1, V a1), (2, V a2), (3, V v3)]) (sbc 1 rfl (sbc 2 rfl (sbc 3 rfl (sbc 0 rfl sbn)))) ?_
      replace h := ih _ h
      exact h ha2 (Vn_in e_v3)
def lb_Searches_nextLateRank_78 (c0 : Nat) (a1 : Int) (S : St) (go : Int × Int → Option (Int)) (a2 : Int) (a3 : Int) : Option (Int) := if (g S (tgt (tgt c0 1) 1) 5) ≤ a3 then (some a2) else (bnO (fn_Plan_storyIsOpen (tgt c0 0) a3 S) fun p13 => if p13 = true then (if 0 ≤ a3 ∧ a3 < 10 then (bnO (fn_Plan_isLate (tgt c0 0) (g S (tgt (tgt (tgt c0 1) 1) 3) a3.toNat) S) fun p17 => if p17 = true then (nm (wr (100 + a3)) fun v20 => bnO (fn_Searches_rankOf (g S (tgt (tgt (tgt c0 1) 1) 3) a3.toNat) v20 S) fun p21 => bnO (fn_Searches_nearerRank a1 a2 p21 S) fun p22 => nm (wr (a3 + 1)) fun v23 => go (p22, v23)) else (nm (wr (a3 + 1)) fun v19 => go (a2, v19))) else none) else (nm (wr (a3 + 1)) fun v15 => go (a2, v15)))
def lo_Searches_nextLateRank_78 (c0 : Nat) (a1 : Int) (S : St) : Nat → Int × Int → Option (Int) := lp fun go p => lb_Searches_nextLateRank_78 c0 a1 S go p.1 p.2
theorem tl_Searches_nextLateRank_78 {E : EV} {X : XT} {c0 : Nat} (hc0 : HC X 6 c0) {a1 : Int} (ha1 : inR a1) {S : St} {K : RK → PS → Prop} {q : Int} (hx : inR q → Go E M_Searches_nextLateRank 0 0 160 [(2, V q)] [] (WX X S) 0 0 K) : ∀ n a, lo_Searches_nextLateRank_78 c0 a1 S n a = some q → inR a.1 → inR a.2 → Go E M_Searches_nextLateRank 0 0 78 [(0, .ref c0), (1, V a1), (2, V a.1), (3, V a.2)] [] (WX X S) 0 0 K := by
  refine lp_ind (P := fun a : Int × Int => inR a.1 → inR a.2 → Go E M_Searches_nextLateRank 0 0 78 [(0, .ref c0), (1, V a1), (2, V a.1), (3, V a.2)] [] (WX X S) 0 0 K) (fun go ih a h => ?_)
  obtain ⟨a2, a3⟩ := a
  intro ha2 ha3
  show Go E M_Searches_nextLateRank 0 0 78 [(0, .ref c0), (1, V a1), (2, V a2), (3, V a3)] [] (WX X S) 0 0 K
  replace h : lb_Searches_nextLateRank_78 c0 a1 S go a2 a3 = some q := h
  unfold lb_Searches_nextLateRank_78 at h
  refine g_iloadn (pc := 78) (i0 := 3) (j := 3) (dK D_Searches_nextLateRank_0 40 rfl) rfl rfl ?_
  refine g_aloadn (pc := 79) (i0 := 0) (j := 0) (dK D_Searches_nextLateRank_0 41 rfl) rfl rfl ?_
  refine vg_getO (pc := 80) (ci := 6) (f := 1) (dK D_Searches_nextLateRank_0 42 rfl) q_381 hc0 (ltK rfl) (ltK rfl) rfl ?_
  refine vg_getO (pc := 83) (ci := 8) (f := 1) (dK D_Searches_nextLateRank_0 43 rfl) q_238 (hw_6_1 hc0) (ltK rfl) (ltK rfl) rfl ?_
  refine vg_getI (pc := 86) (ci := 9) (f := 5) (dK D_Searches_nextLateRank_0 44 rfl) q_166 (hw_8_1 (hw_6_1 hc0)) (ltK rfl) (ltK rfl) rfl ?_
  refine vg_icmp_ge (pc := 89) (t := 160) (dK D_Searches_nextLateRank_0 45 rfl) rfl ha3 (g_in _ _ _) (fun hc24 => ?_) (fun hc24 => ?_)
  · replace h := ifP h hc24
    obtain rfl := Option.some.inj h
    refine gL_weak (ls' := [(2, V a2)]) (sbc 2 rfl sbn) ?_
    exact hx ha2
  · replace h := ifN h hc24
    refine g_aloadn (pc := 92) (i0 := 0) (j := 0) (dK D_Searches_nextLateRank_0 46 rfl) rfl rfl ?_
    refine vg_getO (pc := 93) (ci := 6) (f := 0) (dK D_Searches_nextLateRank_0 47 rfl) q_379 hc0 (ltK rfl) (ltK rfl) rfl ?_
    refine g_iloadn (pc := 96) (i0 := 3) (j := 3) (dK D_Searches_nextLateRank_0 48 rfl) rfl rfl ?_
    refine bnE h (fun p13 e_p13 h => ?_)
    refine vg_cV (pc := 97) (As := [V a3]) (rest := []) (mc' := 0) (ms' := 0) (dK D_Searches_nextLateRank_0 49 rfl) K_Searches_220 (fitK rfl) (ltK rfl) (hw_6_0 hc0) rfl (leK rfl) (leK rfl) (leK rfl) (tf_Plan_storyIsOpen (hw_6_0 hc0) ha3 e_p13) (kcB ?_)
    refine vg_ifB_eq (pc := 100) (b := p13) (t := 154) (dK D_Searches_nextLateRank_1 0 rfl) rfl (fun hc14 => ?_) (fun hc14 => ?_)
    · replace h := ifP h hc14
      refine g_aloadn (pc := 103) (i0 := 0) (j := 0) (dK D_Searches_nextLateRank_1 1 rfl) rfl rfl ?_
      refine vg_getO (pc := 104) (ci := 6) (f := 0) (dK D_Searches_nextLateRank_1 2 rfl) q_379 hc0 (ltK rfl) (ltK rfl) rfl ?_
      refine g_aloadn (pc := 107) (i0 := 0) (j := 0) (dK D_Searches_nextLateRank_1 3 rfl) rfl rfl ?_
      refine vg_getO (pc := 108) (ci := 6) (f := 1) (dK D_Searches_nextLateRank_1 4 rfl) q_381 hc0 (ltK rfl) (ltK rfl) rfl ?_
      refine vg_getO (pc := 111) (ci := 8) (f := 1) (dK D_Searches_nextLateRank_1 5 rfl) q_238 (hw_6_1 hc0) (ltK rfl) (ltK rfl) rfl ?_
      refine vg_getA (pc := 114) (ci := 9) (f := 3) (dK D_Searches_nextLateRank_1 6 rfl) q_157 (hw_8_1 (hw_6_1 hc0)) (ltK rfl) (ltK rfl) rfl ?_
      refine g_iloadn (pc := 117) (i0 := 3) (j := 3) (dK D_Searches_nextLateRank_1 7 rfl) rfl rfl ?_
      refine gdE h (fun hi16 h => ?_)
      refine vg_iaload (pc := 118) (j := a3.toNat) (dK D_Searches_nextLateRank_1 8 rfl) (hw_9_3 (hw_8_1 (hw_6_1 hc0))) rfl hi16 rfl ?_
      refine bnE h (fun p17 e_p17 h => ?_)
      refine vg_cV (pc := 119) (As := [V (g S (tgt (tgt (tgt c0 1) 1) 3) a3.toNat)]) (rest := []) (mc' := 0) (ms' := 0) (dK D_Searches_nextLateRank_1 9 rfl) K_Searches_210 (fitK rfl) (ltK rfl) (hw_6_0 hc0) rfl (leK rfl) (leK rfl) (leK rfl) (tf_Plan_isLate (hw_6_0 hc0) (g_in _ _ _) e_p17) (kcB ?_)
      refine vg_ifB_eq (pc := 122) (b := p17) (t := 154) (dK D_Searches_nextLateRank_1 10 rfl) rfl (fun hc18 => ?_) (fun hc18 => ?_)
      · replace h := ifP h hc18
        refine g_aloadn (pc := 125) (i0 := 0) (j := 0) (dK D_Searches_nextLateRank_1 11 rfl) rfl rfl ?_
        refine vg_getO (pc := 126) (ci := 6) (f := 1) (dK D_Searches_nextLateRank_1 12 rfl) q_381 hc0 (ltK rfl) (ltK rfl) rfl ?_
        refine vg_getO (pc := 129) (ci := 8) (f := 1) (dK D_Searches_nextLateRank_1 13 rfl) q_238 (hw_6_1 hc0) (ltK rfl) (ltK rfl) rfl ?_
        refine vg_getA (pc := 132) (ci := 9) (f := 3) (dK D_Searches_nextLateRank_1 14 rfl) q_157 (hw_8_1 (hw_6_1 hc0)) (ltK rfl) (ltK rfl) rfl ?_
        refine g_iloadn (pc := 135) (i0 := 3) (j := 3) (dK D_Searches_nextLateRank_1 15 rfl) rfl rfl ?_
        refine vg_iaload (pc := 136) (j := a3.toNat) (dK D_Searches_nextLateRank_1 16 rfl) (hw_9_3 (hw_8_1 (hw_6_1 hc0))) rfl hi16 rfl ?_
        refine vg_bipush (pc := 137) (dK D_Searches_nextLateRank_1 17 rfl) rfl ?_
        refine g_iloadn (pc := 139) (i0 := 3) (j := 3) (dK D_Searches_nextLateRank_1 18 rfl) rfl rfl ?_
        refine vg_iadd (pc := 140) (dK D_Searches_nextLateRank_1 19 rfl) ?_
        refine nmE h (fun v20 e_v20 h => ?_)
        refine gtop e_v20 ?_
        refine bnE h (fun p21 e_p21 h => ?_)
        refine vg_cS (pc := 141) (As := [V (g S (tgt (tgt (tgt c0 1) 1) 3) a3.toNat), V v20]) (rest := []) (mc' := 0) (ms' := 0) (dK D_Searches_nextLateRank_1 20 rfl) K_Searches_213 (fitK rfl) rfl (leK rfl) (leK rfl) (leK rfl) (tf_Searches_rankOf (g_in _ _ _) (Vn_in e_v20) e_p21) (kcI (fun h_p21 => ?_))
        refine g_istore (pc := 144) (ls2 := [(4, V p21), (0, .ref c0), (1, V a1), (2, V a2), (3, V a3)]) (dK D_Searches_nextLateRank_1 21 rfl) (ltK rfl) rfl ?_
        refine g_iloadn (pc := 146) (i0 := 1) (j := 2) (dK D_Searches_nextLateRank_1 22 rfl) rfl rfl ?_
        refine g_iloadn (pc := 147) (i0 := 2) (j := 3) (dK D_Searches_nextLateRank_1 23 rfl) rfl rfl ?_
        refine g_iload (pc := 148) (j := 0) (dK D_Searches_nextLateRank_1 24 rfl) rfl ?_
        refine bnE h (fun p22 e_p22 h => ?_)
        refine vg_cS (pc := 150) (As := [V a1, V a2, V p21]) (rest := []) (mc' := 0) (ms' := 0) (dK D_Searches_nextLateRank_1 25 rfl) K_Searches_216 (fitK rfl) rfl (leK rfl) (leK rfl) (leK rfl) (tf_Searches_nearerRank ha1 ha2 h_p21 e_p22) (kcI (fun h_p22 => ?_))
        refine g_istoren (pc := 153) (i0 := 2) (ls2 := [(2, V p22), (4, V p21), (0, .ref c0), (1, V a1), (3, V a3)]) (dK D_Searches_nextLateRank_1 26 rfl) rfl (ltK rfl) rfl ?_
        refine nmE h (fun v23 e_v23 h => ?_)
        refine vg_iinc (pc := 154) (j := 4) (a := a3) (z := 1) (ls2 := [(3, V v23), (2, V p22), (4, V p21), (0, .ref c0), (1, V a1)]) (dK D_Searches_nextLateRank_1 27 rfl) rfl e_v23 (ltK rfl) rfl ?_
        refine g_goto (pc := 157) (tgt := 78) (dK D_Searches_nextLateRank_1 28 rfl) rfl ?_
        refine gL_weak (ls' := [(0, .ref c0), (1, V a1), (2, V p22), (3, V v23)]) (sbc 3 rfl (sbc 4 rfl (sbc 1 rfl (sbc 0 rfl sbn)))) ?_
        replace h := ih _ h
        exact h h_p22 (Vn_in e_v23)
      · replace h := ifN h hc18
        refine nmE h (fun v19 e_v19 h => ?_)
        refine vg_iinc (pc := 154) (j := 3) (a := a3) (z := 1) (ls2 := [(3, V v19), (0, .ref c0), (1, V a1), (2, V a2)]) (dK D_Searches_nextLateRank_1 27 rfl) rfl e_v19 (ltK rfl) rfl ?_
        refine g_goto (pc := 157) (tgt := 78) (dK D_Searches_nextLateRank_1 28 rfl) rfl ?_
        refine gL_weak (ls' := [(0, .ref c0), (1, V a1), (2, V a2), (3, V v19)]) (sbc 1 rfl (sbc 2 rfl (sbc 3 rfl (sbc 0 rfl sbn)))) ?_
        replace h := ih _ h
        exact h ha2 (Vn_in e_v19)
    · replace h := ifN h hc14
      refine nmE h (fun v15 e_v15 h => ?_)
      refine vg_iinc (pc := 154) (j := 3) (a := a3) (z := 1) (ls2 := [(3, V v15), (0, .ref c0), (1, V a1), (2, V a2)]) (dK D_Searches_nextLateRank_1 27 rfl) rfl e_v15 (ltK rfl) rfl ?_
      refine g_goto (pc := 157) (tgt := 78) (dK D_Searches_nextLateRank_1 28 rfl) rfl ?_
      refine gL_weak (ls' := [(0, .ref c0), (1, V a1), (2, V a2), (3, V v15)]) (sbc 1 rfl (sbc 2 rfl (sbc 3 rfl (sbc 0 rfl sbn)))) ?_
      replace h := ih _ h
      exact h ha2 (Vn_in e_v15)
def fn_Searches_nextLateRank (c0 : Nat) (a1 : Int) (S : St) : Option (Int) := bnO (lo_Searches_nextLateRank_4 c0 a1 S FU ((-1), 0)) fun p12 => bnO (lo_Searches_nextLateRank_78 c0 a1 S FU (p12, 0)) fun p25 => some p25
theorem tf_Searches_nextLateRank {E : EV} {X : XT} {c0 : Nat} (hc0 : HC X 6 c0) {a1 : Int} (ha1 : inR a1) {S : St} {q : Int} (h : fn_Searches_nextLateRank c0 a1 S = some q) : Ev E M_Searches_nextLateRank [.ref c0, V a1] (WX X S) 0 0 (KI X q S) := by
  refine Ev.of pn_Searches rfl (leK rfl) ?_
  show Go E M_Searches_nextLateRank 0 0 0 [(0, .ref c0), (1, V a1)] [] (WX X S) 0 0 (KI X q S)
  unfold fn_Searches_nextLateRank at h
  refine vg_iconst (pc := 0) (dK D_Searches_nextLateRank_0 0 rfl) ?_
  refine g_istoren (pc := 1) (i0 := 2) (ls2 := [(2, V (-1)), (0, .ref c0), (1, V a1)]) (dK D_Searches_nextLateRank_0 1 rfl) rfl (ltK rfl) rfl ?_
  refine vg_iconst (pc := 2) (dK D_Searches_nextLateRank_0 2 rfl) ?_
  refine g_istoren (pc := 3) (i0 := 3) (ls2 := [(3, V 0), (2, V (-1)), (0, .ref c0), (1, V a1)]) (dK D_Searches_nextLateRank_0 3 rfl) rfl (ltK rfl) rfl ?_
  refine bnE h (fun p12 e_p12 h => ?_)
  refine gL_weak (ls' := [(0, .ref c0), (1, V a1), (2, V (-1)), (3, V 0)]) (sbc 2 rfl (sbc 3 rfl (sbc 1 rfl (sbc 0 rfl sbn)))) ?_
  refine tl_Searches_nextLateRank_4 hc0 ha1 (fun hx2_p12 => ?_) FU ((-1), 0) e_p12 (inRk rfl) (inRk rfl)
  refine vg_iconst (pc := 76) (dK D_Searches_nextLateRank_0 38 rfl) ?_
  refine g_istoren (pc := 77) (i0 := 3) (ls2 := [(3, V 0), (0, .ref c0), (1, V a1), (2, V p12)]) (dK D_Searches_nextLateRank_0 39 rfl) rfl (ltK rfl) rfl ?_
  refine bnE h (fun p25 e_p25 h => ?_)
  refine gL_weak (ls' := [(0, .ref c0), (1, V a1), (2, V p12), (3, V 0)]) (sbc 1 rfl (sbc 2 rfl (sbc 3 rfl (sbc 0 rfl sbn)))) ?_
  refine tl_Searches_nextLateRank_78 hc0 ha1 (fun hx2_p25 => ?_) FU (p12, 0) e_p25 hx2_p12 (inRk rfl)
  refine g_iloadn (pc := 160) (i0 := 2) (j := 0) (dK D_Searches_nextLateRank_1 29 rfl) rfl rfl ?_
  exact vg_iretI (pc := 161) (r := p25) (dK D_Searches_nextLateRank_1 30 rfl) rfl (leK rfl) (leK rfl) (fun _ => rfl) (by obtain rfl := Option.some.inj h; exact ⟨rfl, hx2_p25, rfl⟩)
def lb_Searches_lateItemAt_16 (c0 : Nat) (a1 : Int) (S : St) (go : Int × Int → Option ((Int) ⊕ (Int))) (a2 : Int) (a3 : Int) : Option ((Int) ⊕ (Int)) := if a1 < a3 then (some (.inr a2)) else (bnO (fn_Searches_nextLateRank c0 a2 S) fun p1 => if p1 = (-1) then (some (.inl (-1))) else (nm (wr (a3 + 1)) fun v2 => go (p1, v2)))
def lo_Searches_lateItemAt_16 (c0 : Nat) (a1 : Int) (S : St) : Nat → Int × Int → Option ((Int) ⊕ (Int)) := lp fun go p => lb_Searches_lateItemAt_16 c0 a1 S go p.1 p.2
theorem tl_Searches_lateItemAt_16 {E : EV} {X : XT} {c0 : Nat} (hc0 : HC X 6 c0) {a1 : Int} (ha1 : inR a1) {S : St} {K : RK → PS → Prop} {q : (Int) ⊕ (Int)} (hx : ∀ p, q = .inr p → inR p → Go E M_Searches_lateItemAt 0 0 40 [(2, V p)] [] (WX X S) 0 0 K) (hr : ∀ p, q = .inl p → inR p → K (.inl (some (V p))) (WX X S)) : ∀ n a, lo_Searches_lateItemAt_16 c0 a1 S n a = some q → inR a.1 → inR a.2 → Go E M_Searches_lateItemAt 0 0 16 [(0, .ref c0), (1, V a1), (2, V a.1), (3, V a.2)] [] (WX X S) 0 0 K := by
  refine lp_ind (P := fun a : Int × Int => inR a.1 → inR a.2 → Go E M_Searches_lateItemAt 0 0 16 [(0, .ref c0), (1, V a1), (2, V a.1), (3, V a.2)] [] (WX X S) 0 0 K) (fun go ih a h => ?_)
  obtain ⟨a2, a3⟩ := a
  intro ha2 ha3
  show Go E M_Searches_lateItemAt 0 0 16 [(0, .ref c0), (1, V a1), (2, V a2), (3, V a3)] [] (WX X S) 0 0 K
  replace h : lb_Searches_lateItemAt_16 c0 a1 S go a2 a3 = some q := h
  unfold lb_Searches_lateItemAt_16 at h
  refine g_iloadn (pc := 16) (i0 := 3) (j := 3) (dK D_Searches_lateItemAt 11 rfl) rfl rfl ?_
  refine g_iloadn (pc := 17) (i0 := 1) (j := 1) (dK D_Searches_lateItemAt 12 rfl) rfl rfl ?_
  refine vg_icmp_gt (pc := 18) (t := 40) (dK D_Searches_lateItemAt 13 rfl) rfl ha3 ha1 (fun hc4 => ?_) (fun hc4 => ?_)
  · replace h := ifP h hc4
    refine gL_weak (ls' := [(2, V a2)]) (sbc 2 rfl sbn) ?_
    exact hx _ (Option.some.inj h).symm ha2
  · replace h := ifN h hc4
    refine g_aloadn (pc := 21) (i0 := 0) (j := 0) (dK D_Searches_lateItemAt 14 rfl) rfl rfl ?_
    refine g_iloadn (pc := 22) (i0 := 2) (j := 2) (dK D_Searches_lateItemAt 15 rfl) rfl rfl ?_
    refine bnE h (fun p1 e_p1 h => ?_)
    refine vg_cV (pc := 23) (As := [V a2]) (rest := []) (mc' := 0) (ms' := 0) (dK D_Searches_lateItemAt 16 rfl) K_Searches_201 (fitK rfl) (ltK rfl) hc0 rfl (leK rfl) (leK rfl) (leK rfl) (tf_Searches_nextLateRank hc0 ha2 e_p1) (kcI (fun h_p1 => ?_))
    refine g_istoren (pc := 26) (i0 := 2) (ls2 := [(2, V p1), (0, .ref c0), (1, V a1), (3, V a3)]) (dK D_Searches_lateItemAt 17 rfl) rfl (ltK rfl) rfl ?_
    refine g_iloadn (pc := 27) (i0 := 2) (j := 0) (dK D_Searches_lateItemAt 18 rfl) rfl rfl ?_
    refine vg_iconst (pc := 28) (dK D_Searches_lateItemAt 19 rfl) ?_
    refine vg_icmp_ne (pc := 29) (t := 34) (dK D_Searches_lateItemAt 20 rfl) rfl h_p1 (inRk rfl) (fun hc3 => ?_) (fun hc3 => ?_)
    · replace h := ifN h hc3
      refine nmE h (fun v2 e_v2 h => ?_)
      refine vg_iinc (pc := 34) (j := 3) (a := a3) (z := 1) (ls2 := [(3, V v2), (2, V p1), (0, .ref c0), (1, V a1)]) (dK D_Searches_lateItemAt 23 rfl) rfl e_v2 (ltK rfl) rfl ?_
      refine g_goto (pc := 37) (tgt := 16) (dK D_Searches_lateItemAt 24 rfl) rfl ?_
      refine gL_weak (ls' := [(0, .ref c0), (1, V a1), (2, V p1), (3, V v2)]) (sbc 2 rfl (sbc 3 rfl (sbc 1 rfl (sbc 0 rfl sbn)))) ?_
      replace h := ih _ h
      exact h h_p1 (Vn_in e_v2)
    · replace h := ifP h hc3
      refine vg_iconst (pc := 32) (dK D_Searches_lateItemAt 21 rfl) ?_
      exact vg_iretI (pc := 33) (r := (-1)) (dK D_Searches_lateItemAt 22 rfl) rfl (leK rfl) (leK rfl) (fun _ => rfl) (hr _ (Option.some.inj h).symm (inRk rfl))
def fn_Searches_lateItemAt (c0 : Nat) (a1 : Int) (S : St) : Option (Int) := if a1 < 0 then (some (-1)) else (if a1 < 50 then (bnS (lo_Searches_lateItemAt_16 c0 a1 S FU ((-1), 0)) (fun p6 => some p6) fun p5 => some (wr (p5.tmod 200))) else (some (-1)))
theorem tf_Searches_lateItemAt {E : EV} {X : XT} {c0 : Nat} (hc0 : HC X 6 c0) {a1 : Int} (ha1 : inR a1) {S : St} {q : Int} (h : fn_Searches_lateItemAt c0 a1 S = some q) : Ev E M_Searches_lateItemAt [.ref c0, V a1] (WX X S) 0 0 (KI X q S) := by
  refine Ev.of pn_Searches rfl (leK rfl) ?_
  show Go E M_Searches_lateItemAt 0 0 0 [(0, .ref c0), (1, V a1)] [] (WX X S) 0 0 (KI X q S)
  unfold fn_Searches_lateItemAt at h
  refine g_iloadn (pc := 0) (i0 := 1) (j := 1) (dK D_Searches_lateItemAt 0 rfl) rfl rfl ?_
  refine vg_if_lt (pc := 1) (t := 10) (dK D_Searches_lateItemAt 1 rfl) rfl ha1 (fun hc8 => ?_) (fun hc8 => ?_)
  · replace h := ifP h hc8
    refine vg_iconst (pc := 10) (dK D_Searches_lateItemAt 5 rfl) ?_
    exact vg_iretI (pc := 11) (r := (-1)) (dK D_Searches_lateItemAt 6 rfl) rfl (leK rfl) (leK rfl) (fun _ => rfl) (by obtain rfl := Option.some.inj h; exact ⟨rfl, (inRk rfl), rfl⟩)
  · replace h := ifN h hc8
    refine g_iloadn (pc := 4) (i0 := 1) (j := 1) (dK D_Searches_lateItemAt 2 rfl) rfl rfl ?_
    refine vg_bipush (pc := 5) (dK D_Searches_lateItemAt 3 rfl) rfl ?_
    refine vg_icmp_lt (pc := 7) (t := 12) (dK D_Searches_lateItemAt 4 rfl) rfl ha1 (inRk rfl) (fun hc7 => ?_) (fun hc7 => ?_)
    · replace h := ifP h hc7
      refine vg_iconst (pc := 12) (dK D_Searches_lateItemAt 7 rfl) ?_
      refine g_istoren (pc := 13) (i0 := 2) (ls2 := [(2, V (-1)), (0, .ref c0), (1, V a1)]) (dK D_Searches_lateItemAt 8 rfl) rfl (ltK rfl) rfl ?_
      refine vg_iconst (pc := 14) (dK D_Searches_lateItemAt 9 rfl) ?_
      refine g_istoren (pc := 15) (i0 := 3) (ls2 := [(3, V 0), (2, V (-1)), (0, .ref c0), (1, V a1)]) (dK D_Searches_lateItemAt 10 rfl) rfl (ltK rfl) rfl ?_
      refine bnSE h (fun p6 e_p6 h => ?_) (fun p5 e_p5 h => ?_)
      · refine gL_weak (ls' := [(0, .ref c0), (1, V a1), (2, V (-1)), (3, V 0)]) (sbc 2 rfl (sbc 3 rfl (sbc 1 rfl (sbc 0 rfl sbn)))) ?_
        refine tl_Searches_lateItemAt_16 hc0 ha1 (fun _ e => slr e) (fun p e hr_p6 => ?_) FU ((-1), 0) e_p6 (inRk rfl) (inRk rfl)
        have e := Sum.inl.inj e
        subst e
        exact (by obtain rfl := Option.some.inj h; exact ⟨rfl, hr_p6, rfl⟩)
      · refine gL_weak (ls' := [(0, .ref c0), (1, V a1), (2, V (-1)), (3, V 0)]) (sbc 2 rfl (sbc 3 rfl (sbc 1 rfl (sbc 0 rfl sbn)))) ?_
        refine tl_Searches_lateItemAt_16 hc0 ha1 (fun p e hx2_p5 => ?_) (fun _ e => srl e) FU ((-1), 0) e_p5 (inRk rfl) (inRk rfl)
        have e := Sum.inr.inj e
        subst e
        refine g_iloadn (pc := 40) (i0 := 2) (j := 0) (dK D_Searches_lateItemAt 25 rfl) rfl rfl ?_
        refine vg_sipush (pc := 41) (dK D_Searches_lateItemAt 26 rfl) rfl ?_
        refine vg_irem (pc := 44) (dK D_Searches_lateItemAt 27 rfl) hx2_p5 (inRk rfl) (by decide) ?_
        refine gtop (x := (wr (p5.tmod 200))) rfl ?_
        exact vg_iretI (pc := 45) (r := (wr (p5.tmod 200))) (dK D_Searches_lateItemAt 28 rfl) rfl (leK rfl) (leK rfl) (fun _ => rfl) (by obtain rfl := Option.some.inj h; exact ⟨rfl, (wr_in _), rfl⟩)
    · replace h := ifN h hc7
      refine vg_iconst (pc := 10) (dK D_Searches_lateItemAt 5 rfl) ?_
      exact vg_iretI (pc := 11) (r := (-1)) (dK D_Searches_lateItemAt 6 rfl) rfl (leK rfl) (leK rfl) (fun _ => rfl) (by obtain rfl := Option.some.inj h; exact ⟨rfl, (inRk rfl), rfl⟩)
def fn_FP_lateItem (c0 : Nat) (a1 : Int) (S : St) : Option (Int) := bnO (fn_Searches_lateItemAt (tgt c0 2) a1 S) fun p1 => some p1
theorem tf_FP_lateItem {E : EV} {X : XT} {c0 : Nat} (hc0 : HC X 10 c0) {a1 : Int} (ha1 : inR a1) {S : St} {q : Int} (h : fn_FP_lateItem c0 a1 S = some q) : Ev E M_FP_lateItem [.ref c0, V a1] (WX X S) 0 0 (KI X q S) := by
  refine Ev.of pn_FP rfl (leK rfl) ?_
  show Go E M_FP_lateItem 0 0 0 [(0, .ref c0), (1, V a1)] [] (WX X S) 0 0 (KI X q S)
  unfold fn_FP_lateItem at h
  refine g_aloadn (pc := 0) (i0 := 0) (j := 0) (dK D_FP_lateItem 0 rfl) rfl rfl ?_
  refine vg_getO (pc := 1) (ci := 10) (f := 2) (dK D_FP_lateItem 1 rfl) q_435 hc0 (ltK rfl) (ltK rfl) rfl ?_
  refine g_iloadn (pc := 4) (i0 := 1) (j := 1) (dK D_FP_lateItem 2 rfl) rfl rfl ?_
  refine bnE h (fun p1 e_p1 h => ?_)
  refine vg_cV (pc := 5) (As := [V a1]) (rest := []) (mc' := 0) (ms' := 0) (dK D_FP_lateItem 3 rfl) K_FP_312 (fitK rfl) (ltK rfl) (hw_10_2 hc0) rfl (leK rfl) (leK rfl) (leK rfl) (tf_Searches_lateItemAt (hw_10_2 hc0) ha1 e_p1) (kcI (fun h_p1 => ?_))
  exact vg_iretI (pc := 8) (r := p1) (dK D_FP_lateItem 4 rfl) rfl (leK rfl) (leK rfl) (fun _ => rfl) (by obtain rfl := Option.some.inj h; exact ⟨rfl, h_p1, rfl⟩)
def lb_Searches_readyLast_6 (c0 : Nat) (S : St) (go : Int × Int × Int → Option (Int × Int)) (a1 : Int) (a2 : Int) (a3 : Int) : Option (Int × Int) := if (g S (tgt (tgt c0 1) 0) 7) ≤ a3 then (some (a1, a2)) else (bnO (fn_Searches_adIsOpen c0 a3 S) fun p1 => if p1 = true then (if 0 ≤ a3 ∧ a3 < 40 then (if (g S (tgt (tgt (tgt c0 1) 0) 5) a3.toNat) ≤ a2 then (nm (wr (a3 + 1)) fun v5 => go (a1, a2, v5)) else (nm (wr (a3 + 1)) fun v6 => go (a3, (g S (tgt (tgt (tgt c0 1) 0) 5) a3.toNat), v6))) else none) else (nm (wr (a3 + 1)) fun v3 => go (a1, a2, v3)))
def lo_Searches_readyLast_6 (c0 : Nat) (S : St) : Nat → Int × Int × Int → Option (Int × Int) := lp fun go p => lb_Searches_readyLast_6 c0 S go p.1 p.2.1 p.2.2
theorem tl_Searches_readyLast_6 {E : EV} {X : XT} {c0 : Nat} (hc0 : HC X 6 c0) {S : St} {K : RK → PS → Prop} {q : Int × Int} (hx : inR q.1 → inR q.2 → Go E M_Searches_readyLast 0 0 65 [(0, .ref c0), (1, V q.1), (2, V q.2)] [] (WX X S) 0 0 K) : ∀ n a, lo_Searches_readyLast_6 c0 S n a = some q → inR a.1 → inR a.2.1 → inR a.2.2 → Go E M_Searches_readyLast 0 0 6 [(0, .ref c0), (1, V a.1), (2, V a.2.1), (3, V a.2.2)] [] (WX X S) 0 0 K := by
  refine lp_ind (P := fun a : Int × Int × Int => inR a.1 → inR a.2.1 → inR a.2.2 → Go E M_Searches_readyLast 0 0 6 [(0, .ref c0), (1, V a.1), (2, V a.2.1), (3, V a.2.2)] [] (WX X S) 0 0 K) (fun go ih a h => ?_)
  obtain ⟨a1, a2, a3⟩ := a
  intro ha1 ha2 ha3
  show Go E M_Searches_readyLast 0 0 6 [(0, .ref c0), (1, V a1), (2, V a2), (3, V a3)] [] (WX X S) 0 0 K
  replace h : lb_Searches_readyLast_6 c0 S go a1 a2 a3 = some q := h
  unfold lb_Searches_readyLast_6 at h
  refine g_iloadn (pc := 6) (i0 := 3) (j := 3) (dK D_Searches_readyLast_0 6 rfl) rfl rfl ?_
  refine g_aloadn (pc := 7) (i0 := 0) (j := 0) (dK D_Searches_readyLast_0 7 rfl) rfl rfl ?_
  refine vg_getO (pc := 8) (ci := 6) (f := 1) (dK D_Searches_readyLast_0 8 rfl) q_381 hc0 (ltK rfl) (ltK rfl) rfl ?_
  refine vg_getO (pc := 11) (ci := 8) (f := 0) (dK D_Searches_readyLast_0 9 rfl) q_232 (hw_6_1 hc0) (ltK rfl) (ltK rfl) rfl ?_
  refine vg_getI (pc := 14) (ci := 0) (f := 7) (dK D_Searches_readyLast_0 10 rfl) q_117 (hw_8_0 (hw_6_1 hc0)) (ltK rfl) (ltK rfl) rfl ?_
  refine vg_icmp_ge (pc := 17) (t := 65) (dK D_Searches_readyLast_0 11 rfl) rfl ha3 (g_in _ _ _) (fun hc8 => ?_) (fun hc8 => ?_)
  · replace h := ifP h hc8
    obtain rfl := Option.some.inj h
    refine gL_weak (ls' := [(0, .ref c0), (1, V a1), (2, V a2)]) (sbc 0 rfl (sbc 1 rfl (sbc 2 rfl sbn))) ?_
    exact hx ha1 ha2
  · replace h := ifN h hc8
    refine g_aloadn (pc := 20) (i0 := 0) (j := 0) (dK D_Searches_readyLast_0 12 rfl) rfl rfl ?_
    refine g_iloadn (pc := 21) (i0 := 3) (j := 3) (dK D_Searches_readyLast_0 13 rfl) rfl rfl ?_
    refine bnE h (fun p1 e_p1 h => ?_)
    refine vg_cV (pc := 22) (As := [V a3]) (rest := []) (mc' := 0) (ms' := 0) (dK D_Searches_readyLast_0 14 rfl) K_Searches_204 (fitK rfl) (ltK rfl) hc0 rfl (leK rfl) (leK rfl) (leK rfl) (tf_Searches_adIsOpen hc0 ha3 e_p1) (kcB ?_)
    refine vg_ifB_eq (pc := 25) (b := p1) (t := 59) (dK D_Searches_readyLast_0 15 rfl) rfl (fun hc2 => ?_) (fun hc2 => ?_)
    · replace h := ifP h hc2
      refine g_aloadn (pc := 28) (i0 := 0) (j := 0) (dK D_Searches_readyLast_0 16 rfl) rfl rfl ?_
      refine vg_getO (pc := 29) (ci := 6) (f := 1) (dK D_Searches_readyLast_0 17 rfl) q_381 hc0 (ltK rfl) (ltK rfl) rfl ?_
      refine vg_getO (pc := 32) (ci := 8) (f := 0) (dK D_Searches_readyLast_0 18 rfl) q_232 (hw_6_1 hc0) (ltK rfl) (ltK rfl) rfl ?_
      refine vg_getA (pc := 35) (ci := 0) (f := 5) (dK D_Searches_readyLast_0 19 rfl) q_109 (hw_8_0 (hw_6_1 hc0)) (ltK rfl) (ltK rfl) rfl ?_
      refine g_iloadn (pc := 38) (i0 := 3) (j := 3) (dK D_Searches_readyLast_0 20 rfl) rfl rfl ?_
      refine gdE h (fun hi4 h => ?_)
      refine vg_iaload (pc := 39) (j := a3.toNat) (dK D_Searches_readyLast_0 21 rfl) (hw_0_5 (hw_8_0 (hw_6_1 hc0))) rfl hi4 rfl ?_
      refine g_iloadn (pc := 40) (i0 := 2) (j := 2) (dK D_Searches_readyLast_0 22 rfl) rfl rfl ?_
      refine vg_icmp_le (pc := 41) (t := 59) (dK D_Searches_readyLast_0 23 rfl) rfl (g_in _ _ _) ha2 (fun hc7 => ?_) (fun hc7 => ?_)
      · replace h := ifP h hc7
        refine nmE h (fun v5 e_v5 h => ?_)
        refine vg_iinc (pc := 59) (j := 3) (a := a3) (z := 1) (ls2 := [(3, V v5), (0, .ref c0), (1, V a1), (2, V a2)]) (dK D_Searches_readyLast_0 33 rfl) rfl e_v5 (ltK rfl) rfl ?_
        refine g_goto (pc := 62) (tgt := 6) (dK D_Searches_readyLast_0 34 rfl) rfl ?_
        refine gL_weak (ls' := [(0, .ref c0), (1, V a1), (2, V a2), (3, V v5)]) (sbc 1 rfl (sbc 2 rfl (sbc 3 rfl (sbc 0 rfl sbn)))) ?_
        replace h := ih _ h
        exact h ha1 ha2 (Vn_in e_v5)
      · replace h := ifN h hc7
        refine g_iloadn (pc := 44) (i0 := 3) (j := 3) (dK D_Searches_readyLast_0 24 rfl) rfl rfl ?_
        refine g_istoren (pc := 45) (i0 := 1) (ls2 := [(1, V a3), (0, .ref c0), (2, V a2), (3, V a3)]) (dK D_Searches_readyLast_0 25 rfl) rfl (ltK rfl) rfl ?_
        refine g_aloadn (pc := 46) (i0 := 0) (j := 1) (dK D_Searches_readyLast_0 26 rfl) rfl rfl ?_
        refine vg_getO (pc := 47) (ci := 6) (f := 1) (dK D_Searches_readyLast_0 27 rfl) q_381 hc0 (ltK rfl) (ltK rfl) rfl ?_
        refine vg_getO (pc := 50) (ci := 8) (f := 0) (dK D_Searches_readyLast_0 28 rfl) q_232 (hw_6_1 hc0) (ltK rfl) (ltK rfl) rfl ?_
        refine vg_getA (pc := 53) (ci := 0) (f := 5) (dK D_Searches_readyLast_0 29 rfl) q_109 (hw_8_0 (hw_6_1 hc0)) (ltK rfl) (ltK rfl) rfl ?_
        refine g_iloadn (pc := 56) (i0 := 3) (j := 3) (dK D_Searches_readyLast_0 30 rfl) rfl rfl ?_
        refine vg_iaload (pc := 57) (j := a3.toNat) (dK D_Searches_readyLast_0 31 rfl) (hw_0_5 (hw_8_0 (hw_6_1 hc0))) rfl hi4 rfl ?_
        refine g_istoren (pc := 58) (i0 := 2) (ls2 := [(2, V (g S (tgt (tgt (tgt c0 1) 0) 5) a3.toNat)), (1, V a3), (0, .ref c0), (3, V a3)]) (dK D_Searches_readyLast_0 32 rfl) rfl (ltK rfl) rfl ?_
        refine nmE h (fun v6 e_v6 h => ?_)
        refine vg_iinc (pc := 59) (j := 3) (a := a3) (z := 1) (ls2 := [(3, V v6), (2, V (g S (tgt (tgt (tgt c0 1) 0) 5) a3.toNat)), (1, V a3), (0, .ref c0)]) (dK D_Searches_readyLast_0 33 rfl) rfl e_v6 (ltK rfl) rfl ?_
        refine g_goto (pc := 62) (tgt := 6) (dK D_Searches_readyLast_0 34 rfl) rfl ?_
        refine gL_weak (ls' := [(0, .ref c0), (1, V a3), (2, V (g S (tgt (tgt (tgt c0 1) 0) 5) a3.toNat)), (3, V v6)]) (sbc 3 rfl (sbc 2 rfl (sbc 1 rfl (sbc 0 rfl sbn)))) ?_
        replace h := ih _ h
        exact h ha3 (g_in _ _ _) (Vn_in e_v6)
    · replace h := ifN h hc2
      refine nmE h (fun v3 e_v3 h => ?_)
      refine vg_iinc (pc := 59) (j := 3) (a := a3) (z := 1) (ls2 := [(3, V v3), (0, .ref c0), (1, V a1), (2, V a2)]) (dK D_Searches_readyLast_0 33 rfl) rfl e_v3 (ltK rfl) rfl ?_
      refine g_goto (pc := 62) (tgt := 6) (dK D_Searches_readyLast_0 34 rfl) rfl ?_
      refine gL_weak (ls' := [(0, .ref c0), (1, V a1), (2, V a2), (3, V v3)]) (sbc 1 rfl (sbc 2 rfl (sbc 3 rfl (sbc 0 rfl sbn)))) ?_
      replace h := ih _ h
      exact h ha1 ha2 (Vn_in e_v3)
def lb_Searches_readyLast_67 (c0 : Nat) (S : St) (go : Int × Int × Int → Option (Int)) (a1 : Int) (a2 : Int) (a3 : Int) : Option (Int) := if (g S (tgt (tgt c0 1) 1) 5) ≤ a3 then (some a1) else (bnO (fn_Plan_storyIsOpen (tgt c0 0) a3 S) fun p10 => if p10 = true then (if 0 ≤ a3 ∧ a3 < 10 then (if (g S (tgt (tgt (tgt c0 1) 1) 3) a3.toNat) ≤ a2 then (nm (wr (a3 + 1)) fun v14 => go (a1, a2, v14)) else (nm (wr (100 + a3)) fun v15 => nm (wr (a3 + 1)) fun v16 => go (v15, (g S (tgt (tgt (tgt c0 1) 1) 3) a3.toNat), v16))) else none) else (nm (wr (a3 + 1)) fun v12 => go (a1, a2, v12)))
def lo_Searches_readyLast_67 (c0 : Nat) (S : St) : Nat → Int × Int × Int → Option (Int) := lp fun go p => lb_Searches_readyLast_67 c0 S go p.1 p.2.1 p.2.2
theorem tl_Searches_readyLast_67 {E : EV} {X : XT} {c0 : Nat} (hc0 : HC X 6 c0) {S : St} {K : RK → PS → Prop} {q : Int} (hx : inR q → Go E M_Searches_readyLast 0 0 132 [(1, V q)] [] (WX X S) 0 0 K) : ∀ n a, lo_Searches_readyLast_67 c0 S n a = some q → inR a.1 → inR a.2.1 → inR a.2.2 → Go E M_Searches_readyLast 0 0 67 [(0, .ref c0), (1, V a.1), (2, V a.2.1), (3, V a.2.2)] [] (WX X S) 0 0 K := by
  refine lp_ind (P := fun a : Int × Int × Int => inR a.1 → inR a.2.1 → inR a.2.2 → Go E M_Searches_readyLast 0 0 67 [(0, .ref c0), (1, V a.1), (2, V a.2.1), (3, V a.2.2)] [] (WX X S) 0 0 K) (fun go ih a h => ?_)
  obtain ⟨a1, a2, a3⟩ := a
  intro ha1 ha2 ha3
  show Go E M_Searches_readyLast 0 0 67 [(0, .ref c0), (1, V a1), (2, V a2), (3, V a3)] [] (WX X S) 0 0 K
  replace h : lb_Searches_readyLast_67 c0 S go a1 a2 a3 = some q := h
  unfold lb_Searches_readyLast_67 at h
  refine g_iloadn (pc := 67) (i0 := 3) (j := 3) (dK D_Searches_readyLast_0 37 rfl) rfl rfl ?_
  refine g_aloadn (pc := 68) (i0 := 0) (j := 0) (dK D_Searches_readyLast_0 38 rfl) rfl rfl ?_
  refine vg_getO (pc := 69) (ci := 6) (f := 1) (dK D_Searches_readyLast_0 39 rfl) q_381 hc0 (ltK rfl) (ltK rfl) rfl ?_
  refine vg_getO (pc := 72) (ci := 8) (f := 1) (dK D_Searches_readyLast_0 40 rfl) q_238 (hw_6_1 hc0) (ltK rfl) (ltK rfl) rfl ?_
  refine vg_getI (pc := 75) (ci := 9) (f := 5) (dK D_Searches_readyLast_0 41 rfl) q_166 (hw_8_1 (hw_6_1 hc0)) (ltK rfl) (ltK rfl) rfl ?_
  refine vg_icmp_ge (pc := 78) (t := 132) (dK D_Searches_readyLast_0 42 rfl) rfl ha3 (g_in _ _ _) (fun hc18 => ?_) (fun hc18 => ?_)
  · replace h := ifP h hc18
    obtain rfl := Option.some.inj h
    refine gL_weak (ls' := [(1, V a1)]) (sbc 1 rfl sbn) ?_
    exact hx ha1
  · replace h := ifN h hc18
    refine g_aloadn (pc := 81) (i0 := 0) (j := 0) (dK D_Searches_readyLast_0 43 rfl) rfl rfl ?_
    refine vg_getO (pc := 82) (ci := 6) (f := 0) (dK D_Searches_readyLast_0 44 rfl) q_379 hc0 (ltK rfl) (ltK rfl) rfl ?_
    refine g_iloadn (pc := 85) (i0 := 3) (j := 3) (dK D_Searches_readyLast_0 45 rfl) rfl rfl ?_
    refine bnE h (fun p10 e_p10 h => ?_)
    refine vg_cV (pc := 86) (As := [V a3]) (rest := []) (mc' := 0) (ms' := 0) (dK D_Searches_readyLast_0 46 rfl) K_Searches_220 (fitK rfl) (ltK rfl) (hw_6_0 hc0) rfl (leK rfl) (leK rfl) (leK rfl) (tf_Plan_storyIsOpen (hw_6_0 hc0) ha3 e_p10) (kcB ?_)
    refine vg_ifB_eq (pc := 89) (b := p10) (t := 126) (dK D_Searches_readyLast_0 47 rfl) rfl (fun hc11 => ?_) (fun hc11 => ?_)
    · replace h := ifP h hc11
      refine g_aloadn (pc := 92) (i0 := 0) (j := 0) (dK D_Searches_readyLast_0 48 rfl) rfl rfl ?_
      refine vg_getO (pc := 93) (ci := 6) (f := 1) (dK D_Searches_readyLast_0 49 rfl) q_381 hc0 (ltK rfl) (ltK rfl) rfl ?_
      refine vg_getO (pc := 96) (ci := 8) (f := 1) (dK D_Searches_readyLast_1 0 rfl) q_238 (hw_6_1 hc0) (ltK rfl) (ltK rfl) rfl ?_
      refine vg_getA (pc := 99) (ci := 9) (f := 3) (dK D_Searches_readyLast_1 1 rfl) q_157 (hw_8_1 (hw_6_1 hc0)) (ltK rfl) (ltK rfl) rfl ?_
      refine g_iloadn (pc := 102) (i0 := 3) (j := 3) (dK D_Searches_readyLast_1 2 rfl) rfl rfl ?_
      refine gdE h (fun hi13 h => ?_)
      refine vg_iaload (pc := 103) (j := a3.toNat) (dK D_Searches_readyLast_1 3 rfl) (hw_9_3 (hw_8_1 (hw_6_1 hc0))) rfl hi13 rfl ?_
      refine g_iloadn (pc := 104) (i0 := 2) (j := 2) (dK D_Searches_readyLast_1 4 rfl) rfl rfl ?_
      refine vg_icmp_le (pc := 105) (t := 126) (dK D_Searches_readyLast_1 5 rfl) rfl (g_in _ _ _) ha2 (fun hc17 => ?_) (fun hc17 => ?_)
      · replace h := ifP h hc17
        refine nmE h (fun v14 e_v14 h => ?_)
        refine vg_iinc (pc := 126) (j := 3) (a := a3) (z := 1) (ls2 := [(3, V v14), (0, .ref c0), (1, V a1), (2, V a2)]) (dK D_Searches_readyLast_1 17 rfl) rfl e_v14 (ltK rfl) rfl ?_
        refine g_goto (pc := 129) (tgt := 67) (dK D_Searches_readyLast_1 18 rfl) rfl ?_
        refine gL_weak (ls' := [(0, .ref c0), (1, V a1), (2, V a2), (3, V v14)]) (sbc 1 rfl (sbc 2 rfl (sbc 3 rfl (sbc 0 rfl sbn)))) ?_
        replace h := ih _ h
        exact h ha1 ha2 (Vn_in e_v14)
      · replace h := ifN h hc17
        refine vg_bipush (pc := 108) (dK D_Searches_readyLast_1 6 rfl) rfl ?_
        refine g_iloadn (pc := 110) (i0 := 3) (j := 3) (dK D_Searches_readyLast_1 7 rfl) rfl rfl ?_
        refine vg_iadd (pc := 111) (dK D_Searches_readyLast_1 8 rfl) ?_
        refine nmE h (fun v15 e_v15 h => ?_)
        refine gtop e_v15 ?_
        refine g_istoren (pc := 112) (i0 := 1) (ls2 := [(1, V v15), (0, .ref c0), (2, V a2), (3, V a3)]) (dK D_Searches_readyLast_1 9 rfl) rfl (ltK rfl) rfl ?_
        refine g_aloadn (pc := 113) (i0 := 0) (j := 1) (dK D_Searches_readyLast_1 10 rfl) rfl rfl ?_
        refine vg_getO (pc := 114) (ci := 6) (f := 1) (dK D_Searches_readyLast_1 11 rfl) q_381 hc0 (ltK rfl) (ltK rfl) rfl ?_
        refine vg_getO (pc := 117) (ci := 8) (f := 1) (dK D_Searches_readyLast_1 12 rfl) q_238 (hw_6_1 hc0) (ltK rfl) (ltK rfl) rfl ?_
        refine vg_getA (pc := 120) (ci := 9) (f := 3) (dK D_Searches_readyLast_1 13 rfl) q_157 (hw_8_1 (hw_6_1 hc0)) (ltK rfl) (ltK rfl) rfl ?_
        refine g_iloadn (pc := 123) (i0 := 3) (j := 3) (dK D_Searches_readyLast_1 14 rfl) rfl rfl ?_
        refine vg_iaload (pc := 124) (j := a3.toNat) (dK D_Searches_readyLast_1 15 rfl) (hw_9_3 (hw_8_1 (hw_6_1 hc0))) rfl hi13 rfl ?_
        refine g_istoren (pc := 125) (i0 := 2) (ls2 := [(2, V (g S (tgt (tgt (tgt c0 1) 1) 3) a3.toNat)), (1, V v15), (0, .ref c0), (3, V a3)]) (dK D_Searches_readyLast_1 16 rfl) rfl (ltK rfl) rfl ?_
        refine nmE h (fun v16 e_v16 h => ?_)
        refine vg_iinc (pc := 126) (j := 3) (a := a3) (z := 1) (ls2 := [(3, V v16), (2, V (g S (tgt (tgt (tgt c0 1) 1) 3) a3.toNat)), (1, V v15), (0, .ref c0)]) (dK D_Searches_readyLast_1 17 rfl) rfl e_v16 (ltK rfl) rfl ?_
        refine g_goto (pc := 129) (tgt := 67) (dK D_Searches_readyLast_1 18 rfl) rfl ?_
        refine gL_weak (ls' := [(0, .ref c0), (1, V v15), (2, V (g S (tgt (tgt (tgt c0 1) 1) 3) a3.toNat)), (3, V v16)]) (sbc 3 rfl (sbc 2 rfl (sbc 1 rfl (sbc 0 rfl sbn)))) ?_
        replace h := ih _ h
        exact h (Vn_in e_v15) (g_in _ _ _) (Vn_in e_v16)
    · replace h := ifN h hc11
      refine nmE h (fun v12 e_v12 h => ?_)
      refine vg_iinc (pc := 126) (j := 3) (a := a3) (z := 1) (ls2 := [(3, V v12), (0, .ref c0), (1, V a1), (2, V a2)]) (dK D_Searches_readyLast_1 17 rfl) rfl e_v12 (ltK rfl) rfl ?_
      refine g_goto (pc := 129) (tgt := 67) (dK D_Searches_readyLast_1 18 rfl) rfl ?_
      refine gL_weak (ls' := [(0, .ref c0), (1, V a1), (2, V a2), (3, V v12)]) (sbc 1 rfl (sbc 2 rfl (sbc 3 rfl (sbc 0 rfl sbn)))) ?_
      replace h := ih _ h
      exact h ha1 ha2 (Vn_in e_v12)
def fn_Searches_readyLast (c0 : Nat) (S : St) : Option (Int) := bnO (lo_Searches_readyLast_6 c0 S FU ((-1), (-1), 0)) fun p9 => bnO (lo_Searches_readyLast_67 c0 S FU (p9.1, p9.2, 0)) fun p19 => some p19
theorem tf_Searches_readyLast {E : EV} {X : XT} {c0 : Nat} (hc0 : HC X 6 c0) {S : St} {q : Int} (h : fn_Searches_readyLast c0 S = some q) : Ev E M_Searches_readyLast [.ref c0] (WX X S) 0 0 (KI X q S) := by
  refine Ev.of pn_Searches rfl (leK rfl) ?_
  show Go E M_Searches_readyLast 0 0 0 [(0, .ref c0)] [] (WX X S) 0 0 (KI X q S)
  unfold fn_Searches_readyLast at h
  refine vg_iconst (pc := 0) (dK D_Searches_readyLast_0 0 rfl) ?_
  refine g_istoren (pc := 1) (i0 := 1) (ls2 := [(1, V (-1)), (0, .ref c0)]) (dK D_Searches_readyLast_0 1 rfl) rfl (ltK rfl) rfl ?_
  refine vg_iconst (pc := 2) (dK D_Searches_readyLast_0 2 rfl) ?_
  refine g_istoren (pc := 3) (i0 := 2) (ls2 := [(2, V (-1)), (1, V (-1)), (0, .ref c0)]) (dK D_Searches_readyLast_0 3 rfl) rfl (ltK rfl) rfl ?_
  refine vg_iconst (pc := 4) (dK D_Searches_readyLast_0 4 rfl) ?_
  refine g_istoren (pc := 5) (i0 := 3) (ls2 := [(3, V 0), (2, V (-1)), (1, V (-1)), (0, .ref c0)]) (dK D_Searches_readyLast_0 5 rfl) rfl (ltK rfl) rfl ?_
  refine bnE h (fun p9 e_p9 h => ?_)
  refine gL_weak (ls' := [(0, .ref c0), (1, V (-1)), (2, V (-1)), (3, V 0)]) (sbc 3 rfl (sbc 2 rfl (sbc 1 rfl (sbc 0 rfl sbn)))) ?_
  refine tl_Searches_readyLast_6 hc0 (fun hx1_p9 hx2_p9 => ?_) FU ((-1), (-1), 0) e_p9 (inRk rfl) (inRk rfl) (inRk rfl)
  refine vg_iconst (pc := 65) (dK D_Searches_readyLast_0 35 rfl) ?_
  refine g_istoren (pc := 66) (i0 := 3) (ls2 := [(3, V 0), (0, .ref c0), (1, V p9.1), (2, V p9.2)]) (dK D_Searches_readyLast_0 36 rfl) rfl (ltK rfl) rfl ?_
  refine bnE h (fun p19 e_p19 h => ?_)
  refine gL_weak (ls' := [(0, .ref c0), (1, V p9.1), (2, V p9.2), (3, V 0)]) (sbc 1 rfl (sbc 2 rfl (sbc 3 rfl (sbc 0 rfl sbn)))) ?_
  refine tl_Searches_readyLast_67 hc0 (fun hx1_p19 => ?_) FU (p9.1, p9.2, 0) e_p19 hx1_p9 hx2_p9 (inRk rfl)
  refine g_iloadn (pc := 132) (i0 := 1) (j := 0) (dK D_Searches_readyLast_1 19 rfl) rfl rfl ?_
  exact vg_iretI (pc := 133) (r := p19) (dK D_Searches_readyLast_1 20 rfl) rfl (leK rfl) (leK rfl) (fun _ => rfl) (by obtain rfl := Option.some.inj h; exact ⟨rfl, hx1_p19, rfl⟩)
def fn_FP_lastReady (c0 : Nat) (S : St) : Option (Int) := bnO (fn_Searches_readyLast (tgt c0 2) S) fun p1 => some p1
theorem tf_FP_lastReady {E : EV} {X : XT} {c0 : Nat} (hc0 : HC X 10 c0) {S : St} {q : Int} (h : fn_FP_lastReady c0 S = some q) : Ev E M_FP_lastReady [.ref c0] (WX X S) 0 0 (KI X q S) := by
  refine Ev.of pn_FP rfl (leK rfl) ?_
  show Go E M_FP_lastReady 0 0 0 [(0, .ref c0)] [] (WX X S) 0 0 (KI X q S)
  unfold fn_FP_lastReady at h
  refine g_aloadn (pc := 0) (i0 := 0) (j := 0) (dK D_FP_lastReady 0 rfl) rfl rfl ?_
  refine vg_getO (pc := 1) (ci := 10) (f := 2) (dK D_FP_lastReady 1 rfl) q_435 hc0 (ltK rfl) (ltK rfl) rfl ?_
  refine bnE h (fun p1 e_p1 h => ?_)
  refine vg_cV (pc := 4) (As := []) (rest := []) (mc' := 0) (ms' := 0) (dK D_FP_lastReady 2 rfl) K_FP_315 (fitK rfl) (ltK rfl) (hw_10_2 hc0) rfl (leK rfl) (leK rfl) (leK rfl) (tf_Searches_readyLast (hw_10_2 hc0) e_p1) (kcI (fun h_p1 => ?_))
  exact vg_iretI (pc := 7) (r := p1) (dK D_FP_lastReady 3 rfl) rfl (leK rfl) (leK rfl) (fun _ => rfl) (by obtain rfl := Option.some.inj h; exact ⟨rfl, h_p1, rfl⟩)
def lb_Searches_countColorPages_18 (c0 : Nat) (go : Int × St → Option (St)) (a1 : Int) (S : St) : Option (St) := if (g S (tgt (tgt c0 1) 0) 7) ≤ a1 then (some S) else (if 0 ≤ a1 ∧ a1 < 40 then (bnO (fn_Plan_hasPage (tgt c0 0) (g S (tgt (tgt (tgt c0 1) 0) 6) a1.toNat) S) fun p4 => if p4 = true then (if (g S (tgt (tgt (tgt c0 1) 0) 2) a1.toNat) = 1 then (if 0 ≤ (g S (tgt (tgt (tgt c0 1) 0) 6) a1.toNat) ∧ (g S (tgt (tgt (tgt c0 1) 0) 6) a1.toNat) < 65 then (nm (u S (tgt c0 9) (((g S (tgt (tgt (tgt c0 1) 0) 6) a1.toNat)).toNat) 1) fun S9 => nm (wr (a1 + 1)) fun v10 => go (v10, S9)) else none) else (nm (wr (a1 + 1)) fun v7 => go (v7, S))) else (nm (wr (a1 + 1)) fun v6 => go (v6, S))) else none)
def lo_Searches_countColorPages_18 (c0 : Nat) : Nat → Int × St → Option (St) := lp fun go p => lb_Searches_countColorPages_18 c0 go p.1 p.2
theorem tl_Searches_countColorPages_18 {E : EV} {X : XT} {c0 : Nat} (hc0 : HC X 6 c0) {K : RK → PS → Prop} {q : St} (hx : Go E M_Searches_countColorPages 0 0 94 [(0, .ref c0)] [] (WX X q) 0 0 K) : ∀ n a, lo_Searches_countColorPages_18 c0 n a = some q → inR a.1 → Go E M_Searches_countColorPages 0 0 18 [(0, .ref c0), (1, V a.1)] [] (WX X a.2) 0 0 K := by
  refine lp_ind (P := fun a : Int × St => inR a.1 → Go E M_Searches_countColorPages 0 0 18 [(0, .ref c0), (1, V a.1)] [] (WX X a.2) 0 0 K) (fun go ih a h => ?_)
  obtain ⟨a1, S⟩ := a
  intro ha1
  show Go E M_Searches_countColorPages 0 0 18 [(0, .ref c0), (1, V a1)] [] (WX X S) 0 0 K
  replace h : lb_Searches_countColorPages_18 c0 go a1 S = some q := h
  unfold lb_Searches_countColorPages_18 at h
  refine g_iloadn (pc := 18) (i0 := 1) (j := 1) (dK D_Searches_countColorPages_0 10 rfl) rfl rfl ?_
  refine g_aloadn (pc := 19) (i0 := 0) (j := 0) (dK D_Searches_countColorPages_0 11 rfl) rfl rfl ?_
  refine vg_getO (pc := 20) (ci := 6) (f := 1) (dK D_Searches_countColorPages_0 12 rfl) q_381 hc0 (ltK rfl) (ltK rfl) rfl ?_
  refine vg_getO (pc := 23) (ci := 8) (f := 0) (dK D_Searches_countColorPages_0 13 rfl) q_232 (hw_6_1 hc0) (ltK rfl) (ltK rfl) rfl ?_
  refine vg_getI (pc := 26) (ci := 0) (f := 7) (dK D_Searches_countColorPages_0 14 rfl) q_117 (hw_8_0 (hw_6_1 hc0)) (ltK rfl) (ltK rfl) rfl ?_
  refine vg_icmp_ge (pc := 29) (t := 94) (dK D_Searches_countColorPages_0 15 rfl) rfl ha1 (g_in _ _ _) (fun hc12 => ?_) (fun hc12 => ?_)
  · replace h := ifP h hc12
    obtain rfl := Option.some.inj h
    refine gL_weak (ls' := [(0, .ref c0)]) (sbc 0 rfl sbn) ?_
    exact hx 
  · replace h := ifN h hc12
    refine g_aloadn (pc := 32) (i0 := 0) (j := 0) (dK D_Searches_countColorPages_0 16 rfl) rfl rfl ?_
    refine vg_getO (pc := 33) (ci := 6) (f := 0) (dK D_Searches_countColorPages_0 17 rfl) q_379 hc0 (ltK rfl) (ltK rfl) rfl ?_
    refine g_aloadn (pc := 36) (i0 := 0) (j := 0) (dK D_Searches_countColorPages_0 18 rfl) rfl rfl ?_
    refine vg_getO (pc := 37) (ci := 6) (f := 1) (dK D_Searches_countColorPages_0 19 rfl) q_381 hc0 (ltK rfl) (ltK rfl) rfl ?_
    refine vg_getO (pc := 40) (ci := 8) (f := 0) (dK D_Searches_countColorPages_0 20 rfl) q_232 (hw_6_1 hc0) (ltK rfl) (ltK rfl) rfl ?_
    refine vg_getA (pc := 43) (ci := 0) (f := 6) (dK D_Searches_countColorPages_0 21 rfl) q_112 (hw_8_0 (hw_6_1 hc0)) (ltK rfl) (ltK rfl) rfl ?_
    refine g_iloadn (pc := 46) (i0 := 1) (j := 1) (dK D_Searches_countColorPages_0 22 rfl) rfl rfl ?_
    refine gdE h (fun hi3 h => ?_)
    refine vg_iaload (pc := 47) (j := a1.toNat) (dK D_Searches_countColorPages_0 23 rfl) (hw_0_6 (hw_8_0 (hw_6_1 hc0))) rfl hi3 rfl ?_
    refine bnE h (fun p4 e_p4 h => ?_)
    refine vg_cV (pc := 48) (As := [V (g S (tgt (tgt (tgt c0 1) 0) 6) a1.toNat)]) (rest := []) (mc' := 0) (ms' := 0) (dK D_Searches_countColorPages_0 24 rfl) K_Searches_190 (fitK rfl) (ltK rfl) (hw_6_0 hc0) rfl (leK rfl) (leK rfl) (leK rfl) (tf_Plan_hasPage (hw_6_0 hc0) (g_in _ _ _) e_p4) (kcB ?_)
    refine vg_ifB_eq (pc := 51) (b := p4) (t := 88) (dK D_Searches_countColorPages_0 25 rfl) rfl (fun hc5 => ?_) (fun hc5 => ?_)
    · replace h := ifP h hc5
      refine g_aloadn (pc := 54) (i0 := 0) (j := 0) (dK D_Searches_countColorPages_0 26 rfl) rfl rfl ?_
      refine vg_getO (pc := 55) (ci := 6) (f := 1) (dK D_Searches_countColorPages_0 27 rfl) q_381 hc0 (ltK rfl) (ltK rfl) rfl ?_
      refine vg_getO (pc := 58) (ci := 8) (f := 0) (dK D_Searches_countColorPages_0 28 rfl) q_232 (hw_6_1 hc0) (ltK rfl) (ltK rfl) rfl ?_
      refine vg_getA (pc := 61) (ci := 0) (f := 2) (dK D_Searches_countColorPages_0 29 rfl) q_98 (hw_8_0 (hw_6_1 hc0)) (ltK rfl) (ltK rfl) rfl ?_
      refine g_iloadn (pc := 64) (i0 := 1) (j := 1) (dK D_Searches_countColorPages_0 30 rfl) rfl rfl ?_
      refine vg_iaload (pc := 65) (j := a1.toNat) (dK D_Searches_countColorPages_0 31 rfl) (hw_0_2 (hw_8_0 (hw_6_1 hc0))) rfl hi3 rfl ?_
      refine vg_iconst (pc := 66) (dK D_Searches_countColorPages_0 32 rfl) ?_
      refine vg_icmp_ne (pc := 67) (t := 88) (dK D_Searches_countColorPages_0 33 rfl) rfl (g_in _ _ _) (inRk rfl) (fun hc11 => ?_) (fun hc11 => ?_)
      · replace h := ifN h hc11
        refine nmE h (fun v7 e_v7 h => ?_)
        refine vg_iinc (pc := 88) (j := 1) (a := a1) (z := 1) (ls2 := [(1, V v7), (0, .ref c0)]) (dK D_Searches_countColorPages_0 44 rfl) rfl e_v7 (ltK rfl) rfl ?_
        refine g_goto (pc := 91) (tgt := 18) (dK D_Searches_countColorPages_0 45 rfl) rfl ?_
        refine gL_weak (ls' := [(0, .ref c0), (1, V v7)]) (sbc 1 rfl (sbc 0 rfl sbn)) ?_
        replace h := ih _ h
        exact h (Vn_in e_v7)
      · replace h := ifP h hc11
        refine g_aloadn (pc := 70) (i0 := 0) (j := 0) (dK D_Searches_countColorPages_0 34 rfl) rfl rfl ?_
        refine vg_getA (pc := 71) (ci := 6) (f := 9) (dK D_Searches_countColorPages_0 35 rfl) q_389 hc0 (ltK rfl) (ltK rfl) rfl ?_
        refine g_aloadn (pc := 74) (i0 := 0) (j := 0) (dK D_Searches_countColorPages_0 36 rfl) rfl rfl ?_
        refine vg_getO (pc := 75) (ci := 6) (f := 1) (dK D_Searches_countColorPages_0 37 rfl) q_381 hc0 (ltK rfl) (ltK rfl) rfl ?_
        refine vg_getO (pc := 78) (ci := 8) (f := 0) (dK D_Searches_countColorPages_0 38 rfl) q_232 (hw_6_1 hc0) (ltK rfl) (ltK rfl) rfl ?_
        refine vg_getA (pc := 81) (ci := 0) (f := 6) (dK D_Searches_countColorPages_0 39 rfl) q_112 (hw_8_0 (hw_6_1 hc0)) (ltK rfl) (ltK rfl) rfl ?_
        refine g_iloadn (pc := 84) (i0 := 1) (j := 1) (dK D_Searches_countColorPages_0 40 rfl) rfl rfl ?_
        refine vg_iaload (pc := 85) (j := a1.toNat) (dK D_Searches_countColorPages_0 41 rfl) (hw_0_6 (hw_8_0 (hw_6_1 hc0))) rfl hi3 rfl ?_
        refine vg_iconst (pc := 86) (dK D_Searches_countColorPages_0 42 rfl) ?_
        refine gdE h (fun hi8 h => ?_)
        refine nmE h (fun S9 e_S9 h => ?_)
        refine vg_iastore (pc := 87) (z := 1) (dK D_Searches_countColorPages_0 43 rfl) (hw_6_9 hc0) rfl hi8 rfl e_S9 ?_
        refine nmE h (fun v10 e_v10 h => ?_)
        refine vg_iinc (pc := 88) (j := 1) (a := a1) (z := 1) (ls2 := [(1, V v10), (0, .ref c0)]) (dK D_Searches_countColorPages_0 44 rfl) rfl e_v10 (ltK rfl) rfl ?_
        refine g_goto (pc := 91) (tgt := 18) (dK D_Searches_countColorPages_0 45 rfl) rfl ?_
        refine gL_weak (ls' := [(0, .ref c0), (1, V v10)]) (sbc 1 rfl (sbc 0 rfl sbn)) ?_
        replace h := ih _ h
        exact h (Vn_in e_v10)
    · replace h := ifN h hc5
      refine nmE h (fun v6 e_v6 h => ?_)
      refine vg_iinc (pc := 88) (j := 1) (a := a1) (z := 1) (ls2 := [(1, V v6), (0, .ref c0)]) (dK D_Searches_countColorPages_0 44 rfl) rfl e_v6 (ltK rfl) rfl ?_
      refine g_goto (pc := 91) (tgt := 18) (dK D_Searches_countColorPages_0 45 rfl) rfl ?_
      refine gL_weak (ls' := [(0, .ref c0), (1, V v6)]) (sbc 1 rfl (sbc 0 rfl sbn)) ?_
      replace h := ih _ h
      exact h (Vn_in e_v6)
def lb_Searches_countColorPages_96 (c0 : Nat) (go : Int × St → Option (St)) (a1 : Int) (S : St) : Option (St) := if (g S (tgt c0 0) 1) < a1 then (some S) else (if 0 ≤ a1 ∧ a1 < 65 then (if (g S (tgt (tgt c0 0) 6) a1.toNat) = (-1) then (if 0 ≤ (g S (tgt (tgt c0 0) 3) a1.toNat) ∧ (g S (tgt (tgt c0 0) 3) a1.toNat) < 8 then (nm (u S (tgt c0 8) (((g S (tgt (tgt c0 0) 3) a1.toNat)).toNat) ((g S (tgt c0 8) (((g S (tgt (tgt c0 0) 3) a1.toNat)).toNat)) + (g S (tgt c0 9) a1.toNat))) fun S16 => nm (wr (a1 + 1)) fun v17 => go (v17, S16)) else none) else (if 0 ≤ (g S (tgt (tgt c0 0) 6) a1.toNat) ∧ (g S (tgt (tgt c0 0) 6) a1.toNat) < 10 then (if (g S (tgt (tgt (tgt c0 1) 1) 1) (((g S (tgt (tgt c0 0) 6) a1.toNat)).toNat)) = 1 then (nm (u S (tgt c0 9) a1.toNat 1) fun S22 => if 0 ≤ (g S22 (tgt (tgt c0 0) 3) a1.toNat) ∧ (g S22 (tgt (tgt c0 0) 3) a1.toNat) < 8 then (nm (u S22 (tgt c0 8) (((g S22 (tgt (tgt c0 0) 3) a1.toNat)).toNat) ((g S22 (tgt c0 8) (((g S22 (tgt (tgt c0 0) 3) a1.toNat)).toNat)) + (g S22 (tgt c0 9) a1.toNat))) fun S24 => nm (wr (a1 + 1)) fun v25 => go (v25, S24)) else none) else (if 0 ≤ (g S (tgt (tgt c0 0) 3) a1.toNat) ∧ (g S (tgt (tgt c0 0) 3) a1.toNat) < 8 then (nm (u S (tgt c0 8) (((g S (tgt (tgt c0 0) 3) a1.toNat)).toNat) ((g S (tgt c0 8) (((g S (tgt (tgt c0 0) 3) a1.toNat)).toNat)) + (g S (tgt c0 9) a1.toNat))) fun S20 => nm (wr (a1 + 1)) fun v21 => go (v21, S20)) else none)) else none)) else none)
def lo_Searches_countColorPages_96 (c0 : Nat) : Nat → Int × St → Option (St) := lp fun go p => lb_Searches_countColorPages_96 c0 go p.1 p.2
theorem tl_Searches_countColorPages_96 {E : EV} {X : XT} {c0 : Nat} (hc0 : HC X 6 c0) {K : RK → PS → Prop} {q : St} (hx : Go E M_Searches_countColorPages 0 0 174 [] [] (WX X q) 0 0 K) : ∀ n a, lo_Searches_countColorPages_96 c0 n a = some q → inR a.1 → Go E M_Searches_countColorPages 0 0 96 [(0, .ref c0), (1, V a.1)] [] (WX X a.2) 0 0 K := by
  refine lp_ind (P := fun a : Int × St => inR a.1 → Go E M_Searches_countColorPages 0 0 96 [(0, .ref c0), (1, V a.1)] [] (WX X a.2) 0 0 K) (fun go ih a h => ?_)
  obtain ⟨a1, S⟩ := a
  intro ha1
  show Go E M_Searches_countColorPages 0 0 96 [(0, .ref c0), (1, V a1)] [] (WX X S) 0 0 K
  replace h : lb_Searches_countColorPages_96 c0 go a1 S = some q := h
  unfold lb_Searches_countColorPages_96 at h
  refine g_iloadn (pc := 96) (i0 := 1) (j := 1) (dK D_Searches_countColorPages_0 48 rfl) rfl rfl ?_
  refine g_aloadn (pc := 97) (i0 := 0) (j := 0) (dK D_Searches_countColorPages_0 49 rfl) rfl rfl ?_
  refine vg_getO (pc := 98) (ci := 6) (f := 0) (dK D_Searches_countColorPages_1 0 rfl) q_379 hc0 (ltK rfl) (ltK rfl) rfl ?_
  refine vg_getI (pc := 101) (ci := 4) (f := 1) (dK D_Searches_countColorPages_1 1 rfl) q_306 (hw_6_0 hc0) (ltK rfl) (ltK rfl) rfl ?_
  refine vg_icmp_gt (pc := 104) (t := 174) (dK D_Searches_countColorPages_1 2 rfl) rfl ha1 (g_in _ _ _) (fun hc28 => ?_) (fun hc28 => ?_)
  · replace h := ifP h hc28
    obtain rfl := Option.some.inj h
    refine gL_weak (ls' := []) sbn ?_
    exact hx 
  · replace h := ifN h hc28
    refine g_aloadn (pc := 107) (i0 := 0) (j := 0) (dK D_Searches_countColorPages_1 3 rfl) rfl rfl ?_
    refine vg_getO (pc := 108) (ci := 6) (f := 0) (dK D_Searches_countColorPages_1 4 rfl) q_379 hc0 (ltK rfl) (ltK rfl) rfl ?_
    refine vg_getA (pc := 111) (ci := 4) (f := 6) (dK D_Searches_countColorPages_1 5 rfl) q_321 (hw_6_0 hc0) (ltK rfl) (ltK rfl) rfl ?_
    refine g_iloadn (pc := 114) (i0 := 1) (j := 1) (dK D_Searches_countColorPages_1 6 rfl) rfl rfl ?_
    refine gdE h (fun hi14 h => ?_)
    refine vg_iaload (pc := 115) (j := a1.toNat) (dK D_Searches_countColorPages_1 7 rfl) (hw_4_6 (hw_6_0 hc0)) rfl hi14 rfl ?_
    refine g_istoren (pc := 116) (i0 := 2) (ls2 := [(2, V (g S (tgt (tgt c0 0) 6) a1.toNat)), (0, .ref c0), (1, V a1)]) (dK D_Searches_countColorPages_1 8 rfl) rfl (ltK rfl) rfl ?_
    refine g_iloadn (pc := 117) (i0 := 2) (j := 0) (dK D_Searches_countColorPages_1 9 rfl) rfl rfl ?_
    refine vg_iconst (pc := 118) (dK D_Searches_countColorPages_1 10 rfl) ?_
    refine vg_icmp_eq (pc := 119) (t := 145) (dK D_Searches_countColorPages_1 11 rfl) rfl (g_in _ _ _) (inRk rfl) (fun hc27 => ?_) (fun hc27 => ?_)
    · replace h := ifP h hc27
      refine g_aloadn (pc := 145) (i0 := 0) (j := 1) (dK D_Searches_countColorPages_1 25 rfl) rfl rfl ?_
      refine vg_getA (pc := 146) (ci := 6) (f := 8) (dK D_Searches_countColorPages_1 26 rfl) q_388 hc0 (ltK rfl) (ltK rfl) rfl ?_
      refine g_aloadn (pc := 149) (i0 := 0) (j := 1) (dK D_Searches_countColorPages_1 27 rfl) rfl rfl ?_
      refine vg_getO (pc := 150) (ci := 6) (f := 0) (dK D_Searches_countColorPages_1 28 rfl) q_379 hc0 (ltK rfl) (ltK rfl) rfl ?_
      refine vg_getA (pc := 153) (ci := 4) (f := 3) (dK D_Searches_countColorPages_1 29 rfl) q_315 (hw_6_0 hc0) (ltK rfl) (ltK rfl) rfl ?_
      refine g_iloadn (pc := 156) (i0 := 1) (j := 2) (dK D_Searches_countColorPages_1 30 rfl) rfl rfl ?_
      refine vg_iaload (pc := 157) (j := a1.toNat) (dK D_Searches_countColorPages_1 31 rfl) (hw_4_3 (hw_6_0 hc0)) rfl hi14 rfl ?_
      refine g_dup2 (pc := 158) (dK D_Searches_countColorPages_1 32 rfl) rfl rfl ?_
      refine gdE h (fun hi15 h => ?_)
      refine vg_iaload (pc := 159) (j := ((g S (tgt (tgt c0 0) 3) a1.toNat)).toNat) (dK D_Searches_countColorPages_1 33 rfl) (hw_6_8 hc0) rfl hi15 rfl ?_
      refine g_aloadn (pc := 160) (i0 := 0) (j := 1) (dK D_Searches_countColorPages_1 34 rfl) rfl rfl ?_
      refine vg_getA (pc := 161) (ci := 6) (f := 9) (dK D_Searches_countColorPages_1 35 rfl) q_389 hc0 (ltK rfl) (ltK rfl) rfl ?_
      refine g_iloadn (pc := 164) (i0 := 1) (j := 2) (dK D_Searches_countColorPages_1 36 rfl) rfl rfl ?_
      refine vg_iaload (pc := 165) (j := a1.toNat) (dK D_Searches_countColorPages_1 37 rfl) (hw_6_9 hc0) rfl hi14 rfl ?_
      refine vg_iadd (pc := 166) (dK D_Searches_countColorPages_1 38 rfl) ?_
      refine nmE h (fun S16 e_S16 h => ?_)
      refine vg_iastore (pc := 167) (z := ((g S (tgt c0 8) (((g S (tgt (tgt c0 0) 3) a1.toNat)).toNat)) + (g S (tgt c0 9) a1.toNat))) (dK D_Searches_countColorPages_1 39 rfl) (hw_6_8 hc0) rfl hi15 rfl e_S16 ?_
      refine nmE h (fun v17 e_v17 h => ?_)
      refine vg_iinc (pc := 168) (j := 2) (a := a1) (z := 1) (ls2 := [(1, V v17), (2, V (g S (tgt (tgt c0 0) 6) a1.toNat)), (0, .ref c0)]) (dK D_Searches_countColorPages_1 40 rfl) rfl e_v17 (ltK rfl) rfl ?_
      refine g_goto (pc := 171) (tgt := 96) (dK D_Searches_countColorPages_1 41 rfl) rfl ?_
      refine gL_weak (ls' := [(0, .ref c0), (1, V v17)]) (sbc 2 rfl (sbc 0 rfl sbn)) ?_
      replace h := ih _ h
      exact h (Vn_in e_v17)
    · replace h := ifN h hc27
      refine g_aloadn (pc := 122) (i0 := 0) (j := 1) (dK D_Searches_countColorPages_1 12 rfl) rfl rfl ?_
      refine vg_getO (pc := 123) (ci := 6) (f := 1) (dK D_Searches_countColorPages_1 13 rfl) q_381 hc0 (ltK rfl) (ltK rfl) rfl ?_
      refine vg_getO (pc := 126) (ci := 8) (f := 1) (dK D_Searches_countColorPages_1 14 rfl) q_238 (hw_6_1 hc0) (ltK rfl) (ltK rfl) rfl ?_
      refine vg_getA (pc := 129) (ci := 9) (f := 1) (dK D_Searches_countColorPages_1 15 rfl) q_151 (hw_8_1 (hw_6_1 hc0)) (ltK rfl) (ltK rfl) rfl ?_
      refine g_iloadn (pc := 132) (i0 := 2) (j := 0) (dK D_Searches_countColorPages_1 16 rfl) rfl rfl ?_
      refine gdE h (fun hi18 h => ?_)
      refine vg_iaload (pc := 133) (j := ((g S (tgt (tgt c0 0) 6) a1.toNat)).toNat) (dK D_Searches_countColorPages_1 17 rfl) (hw_9_1 (hw_8_1 (hw_6_1 hc0))) rfl hi18 rfl ?_
      refine vg_iconst (pc := 134) (dK D_Searches_countColorPages_1 18 rfl) ?_
      refine vg_icmp_ne (pc := 135) (t := 145) (dK D_Searches_countColorPages_1 19 rfl) rfl (g_in _ _ _) (inRk rfl) (fun hc26 => ?_) (fun hc26 => ?_)
      · replace h := ifN h hc26
        refine g_aloadn (pc := 145) (i0 := 0) (j := 1) (dK D_Searches_countColorPages_1 25 rfl) rfl rfl ?_
        refine vg_getA (pc := 146) (ci := 6) (f := 8) (dK D_Searches_countColorPages_1 26 rfl) q_388 hc0 (ltK rfl) (ltK rfl) rfl ?_
        refine g_aloadn (pc := 149) (i0 := 0) (j := 1) (dK D_Searches_countColorPages_1 27 rfl) rfl rfl ?_
        refine vg_getO (pc := 150) (ci := 6) (f := 0) (dK D_Searches_countColorPages_1 28 rfl) q_379 hc0 (ltK rfl) (ltK rfl) rfl ?_
        refine vg_getA (pc := 153) (ci := 4) (f := 3) (dK D_Searches_countColorPages_1 29 rfl) q_315 (hw_6_0 hc0) (ltK rfl) (ltK rfl) rfl ?_
        refine g_iloadn (pc := 156) (i0 := 1) (j := 2) (dK D_Searches_countColorPages_1 30 rfl) rfl rfl ?_
        refine vg_iaload (pc := 157) (j := a1.toNat) (dK D_Searches_countColorPages_1 31 rfl) (hw_4_3 (hw_6_0 hc0)) rfl hi14 rfl ?_
        refine g_dup2 (pc := 158) (dK D_Searches_countColorPages_1 32 rfl) rfl rfl ?_
        refine gdE h (fun hi19 h => ?_)
        refine vg_iaload (pc := 159) (j := ((g S (tgt (tgt c0 0) 3) a1.toNat)).toNat) (dK D_Searches_countColorPages_1 33 rfl) (hw_6_8 hc0) rfl hi19 rfl ?_
        refine g_aloadn (pc := 160) (i0 := 0) (j := 1) (dK D_Searches_countColorPages_1 34 rfl) rfl rfl ?_
        refine vg_getA (pc := 161) (ci := 6) (f := 9) (dK D_Searches_countColorPages_1 35 rfl) q_389 hc0 (ltK rfl) (ltK rfl) rfl ?_
        refine g_iloadn (pc := 164) (i0 := 1) (j := 2) (dK D_Searches_countColorPages_1 36 rfl) rfl rfl ?_
        refine vg_iaload (pc := 165) (j := a1.toNat) (dK D_Searches_countColorPages_1 37 rfl) (hw_6_9 hc0) rfl hi14 rfl ?_
        refine vg_iadd (pc := 166) (dK D_Searches_countColorPages_1 38 rfl) ?_
        refine nmE h (fun S20 e_S20 h => ?_)
        refine vg_iastore (pc := 167) (z := ((g S (tgt c0 8) (((g S (tgt (tgt c0 0) 3) a1.toNat)).toNat)) + (g S (tgt c0 9) a1.toNat))) (dK D_Searches_countColorPages_1 39 rfl) (hw_6_8 hc0) rfl hi19 rfl e_S20 ?_
        refine nmE h (fun v21 e_v21 h => ?_)
        refine vg_iinc (pc := 168) (j := 2) (a := a1) (z := 1) (ls2 := [(1, V v21), (2, V (g S (tgt (tgt c0 0) 6) a1.toNat)), (0, .ref c0)]) (dK D_Searches_countColorPages_1 40 rfl) rfl e_v21 (ltK rfl) rfl ?_
        refine g_goto (pc := 171) (tgt := 96) (dK D_Searches_countColorPages_1 41 rfl) rfl ?_
        refine gL_weak (ls' := [(0, .ref c0), (1, V v21)]) (sbc 2 rfl (sbc 0 rfl sbn)) ?_
        replace h := ih _ h
        exact h (Vn_in e_v21)
      · replace h := ifP h hc26
        refine g_aloadn (pc := 138) (i0 := 0) (j := 1) (dK D_Searches_countColorPages_1 20 rfl) rfl rfl ?_
        refine vg_getA (pc := 139) (ci := 6) (f := 9) (dK D_Searches_countColorPages_1 21 rfl) q_389 hc0 (ltK rfl) (ltK rfl) rfl ?_
        refine g_iloadn (pc := 142) (i0 := 1) (j := 2) (dK D_Searches_countColorPages_1 22 rfl) rfl rfl ?_
        refine vg_iconst (pc := 143) (dK D_Searches_countColorPages_1 23 rfl) ?_
        refine nmE h (fun S22 e_S22 h => ?_)
        refine vg_iastore (pc := 144) (z := 1) (dK D_Searches_countColorPages_1 24 rfl) (hw_6_9 hc0) rfl hi14 rfl e_S22 ?_
        refine g_aloadn (pc := 145) (i0 := 0) (j := 1) (dK D_Searches_countColorPages_1 25 rfl) rfl rfl ?_
        refine vg_getA (pc := 146) (ci := 6) (f := 8) (dK D_Searches_countColorPages_1 26 rfl) q_388 hc0 (ltK rfl) (ltK rfl) rfl ?_
        refine g_aloadn (pc := 149) (i0 := 0) (j := 1) (dK D_Searches_countColorPages_1 27 rfl) rfl rfl ?_
        refine vg_getO (pc := 150) (ci := 6) (f := 0) (dK D_Searches_countColorPages_1 28 rfl) q_379 hc0 (ltK rfl) (ltK rfl) rfl ?_
        refine vg_getA (pc := 153) (ci := 4) (f := 3) (dK D_Searches_countColorPages_1 29 rfl) q_315 (hw_6_0 hc0) (ltK rfl) (ltK rfl) rfl ?_
        refine g_iloadn (pc := 156) (i0 := 1) (j := 2) (dK D_Searches_countColorPages_1 30 rfl) rfl rfl ?_
        refine vg_iaload (pc := 157) (j := a1.toNat) (dK D_Searches_countColorPages_1 31 rfl) (hw_4_3 (hw_6_0 hc0)) rfl hi14 rfl ?_
        refine g_dup2 (pc := 158) (dK D_Searches_countColorPages_1 32 rfl) rfl rfl ?_
        refine gdE h (fun hi23 h => ?_)
        refine vg_iaload (pc := 159) (j := ((g S22 (tgt (tgt c0 0) 3) a1.toNat)).toNat) (dK D_Searches_countColorPages_1 33 rfl) (hw_6_8 hc0) rfl hi23 rfl ?_
        refine g_aloadn (pc := 160) (i0 := 0) (j := 1) (dK D_Searches_countColorPages_1 34 rfl) rfl rfl ?_
        refine vg_getA (pc := 161) (ci := 6) (f := 9) (dK D_Searches_countColorPages_1 35 rfl) q_389 hc0 (ltK rfl) (ltK rfl) rfl ?_
        refine g_iloadn (pc := 164) (i0 := 1) (j := 2) (dK D_Searches_countColorPages_1 36 rfl) rfl rfl ?_
        refine vg_iaload (pc := 165) (j := a1.toNat) (dK D_Searches_countColorPages_1 37 rfl) (hw_6_9 hc0) rfl hi14 rfl ?_
        refine vg_iadd (pc := 166) (dK D_Searches_countColorPages_1 38 rfl) ?_
        refine nmE h (fun S24 e_S24 h => ?_)
        refine vg_iastore (pc := 167) (z := ((g S22 (tgt c0 8) (((g S22 (tgt (tgt c0 0) 3) a1.toNat)).toNat)) + (g S22 (tgt c0 9) a1.toNat))) (dK D_Searches_countColorPages_1 39 rfl) (hw_6_8 hc0) rfl hi23 rfl e_S24 ?_
        refine nmE h (fun v25 e_v25 h => ?_)
        refine vg_iinc (pc := 168) (j := 2) (a := a1) (z := 1) (ls2 := [(1, V v25), (2, V (g S (tgt (tgt c0 0) 6) a1.toNat)), (0, .ref c0)]) (dK D_Searches_countColorPages_1 40 rfl) rfl e_v25 (ltK rfl) rfl ?_
        refine g_goto (pc := 171) (tgt := 96) (dK D_Searches_countColorPages_1 41 rfl) rfl ?_
        refine gL_weak (ls' := [(0, .ref c0), (1, V v25)]) (sbc 2 rfl (sbc 0 rfl sbn)) ?_
        replace h := ih _ h
        exact h (Vn_in e_v25)
def fn_Searches_countColorPages (c0 : Nat) (S : St) : Option (St) := bnO (fn_Arrays_fill 65 (tgt c0 9) 0 S) fun p1 => bnO (fn_Arrays_fill 8 (tgt c0 8) 0 p1) fun p2 => bnO (lo_Searches_countColorPages_18 c0 FU (0, p2)) fun p13 => bnO (lo_Searches_countColorPages_96 c0 FU (1, p13)) fun p29 => some p29
theorem tf_Searches_countColorPages {E : EV} {X : XT} {c0 : Nat} (hc0 : HC X 6 c0) {S : St} {q : St} (h : fn_Searches_countColorPages c0 S = some q) : Ev E M_Searches_countColorPages [.ref c0] (WX X S) 0 0 (KU X q) := by
  refine Ev.of pn_Searches rfl (leK rfl) ?_
  show Go E M_Searches_countColorPages 0 0 0 [(0, .ref c0)] [] (WX X S) 0 0 (KU X q)
  unfold fn_Searches_countColorPages at h
  refine g_aloadn (pc := 0) (i0 := 0) (j := 0) (dK D_Searches_countColorPages_0 0 rfl) rfl rfl ?_
  refine vg_getA (pc := 1) (ci := 6) (f := 9) (dK D_Searches_countColorPages_0 1 rfl) q_389 hc0 (ltK rfl) (ltK rfl) rfl ?_
  refine vg_iconst (pc := 4) (dK D_Searches_countColorPages_0 2 rfl) ?_
  refine bnE h (fun p1 e_p1 h => ?_)
  refine vg_cS (pc := 5) (As := [.ref (tgt c0 9), V 0]) (rest := []) (mc' := 0) (ms' := 0) (dK D_Searches_countColorPages_0 3 rfl) K_Searches_140 (fitK rfl) rfl (leK rfl) (leK rfl) (leK rfl) (tf_Arrays_fill rfl (hw_6_9 hc0) (inRk rfl) e_p1) (kcU ?_)
  refine g_aloadn (pc := 8) (i0 := 0) (j := 0) (dK D_Searches_countColorPages_0 4 rfl) rfl rfl ?_
  refine vg_getA (pc := 9) (ci := 6) (f := 8) (dK D_Searches_countColorPages_0 5 rfl) q_388 hc0 (ltK rfl) (ltK rfl) rfl ?_
  refine vg_iconst (pc := 12) (dK D_Searches_countColorPages_0 6 rfl) ?_
  refine bnE h (fun p2 e_p2 h => ?_)
  refine vg_cS (pc := 13) (As := [.ref (tgt c0 8), V 0]) (rest := []) (mc' := 0) (ms' := 0) (dK D_Searches_countColorPages_0 7 rfl) K_Searches_140 (fitK rfl) rfl (leK rfl) (leK rfl) (leK rfl) (tf_Arrays_fill rfl (hw_6_8 hc0) (inRk rfl) e_p2) (kcU ?_)
  refine vg_iconst (pc := 16) (dK D_Searches_countColorPages_0 8 rfl) ?_
  refine g_istoren (pc := 17) (i0 := 1) (ls2 := [(1, V 0), (0, .ref c0)]) (dK D_Searches_countColorPages_0 9 rfl) rfl (ltK rfl) rfl ?_
  refine bnE h (fun p13 e_p13 h => ?_)
  refine gL_weak (ls' := [(0, .ref c0), (1, V 0)]) (sbc 1 rfl (sbc 0 rfl sbn)) ?_
  refine tl_Searches_countColorPages_18 hc0 ?_ FU (0, p2) e_p13 (inRk rfl)
  refine vg_iconst (pc := 94) (dK D_Searches_countColorPages_0 46 rfl) ?_
  refine g_istoren (pc := 95) (i0 := 1) (ls2 := [(1, V 1), (0, .ref c0)]) (dK D_Searches_countColorPages_0 47 rfl) rfl (ltK rfl) rfl ?_
  refine bnE h (fun p29 e_p29 h => ?_)
  refine gL_weak (ls' := [(0, .ref c0), (1, V 1)]) (sbc 1 rfl (sbc 0 rfl sbn)) ?_
  refine tl_Searches_countColorPages_96 hc0 ?_ FU (1, p13) e_p29 (inRk rfl)
  exact g_return (pc := 174) (dK D_Searches_countColorPages_1 42 rfl) rfl (leK rfl) (leK rfl) (fun _ => rfl) (by obtain rfl := Option.some.inj h; exact ⟨rfl, rfl⟩)
def fn_Searches_oneIfAny (a0 : Int) (S : St) : Option (Int) := if a0 ≤ 0 then (some 0) else (some 1)
theorem tf_Searches_oneIfAny {E : EV} {X : XT} {a0 : Int} (ha0 : inR a0) {S : St} {q : Int} (h : fn_Searches_oneIfAny a0 S = some q) : Ev E M_Searches_oneIfAny [V a0] (WX X S) 0 0 (KI X q S) := by
  refine Ev.of pn_Searches rfl (leK rfl) ?_
  show Go E M_Searches_oneIfAny 0 0 0 [(0, V a0)] [] (WX X S) 0 0 (KI X q S)
  unfold fn_Searches_oneIfAny at h
  refine g_iloadn (pc := 0) (i0 := 0) (j := 0) (dK D_Searches_oneIfAny 0 rfl) rfl rfl ?_
  refine vg_if_le (pc := 1) (t := 8) (dK D_Searches_oneIfAny 1 rfl) rfl ha0 (fun hc1 => ?_) (fun hc1 => ?_)
  · replace h := ifP h hc1
    refine vg_iconst (pc := 8) (dK D_Searches_oneIfAny 4 rfl) ?_
    exact vg_iretI (pc := 9) (r := 0) (dK D_Searches_oneIfAny 5 rfl) rfl (leK rfl) (leK rfl) (fun _ => rfl) (by obtain rfl := Option.some.inj h; exact ⟨rfl, (inRk rfl), rfl⟩)
  · replace h := ifN h hc1
    refine vg_iconst (pc := 4) (dK D_Searches_oneIfAny 2 rfl) ?_
    refine g_goto (pc := 5) (tgt := 9) (dK D_Searches_oneIfAny 3 rfl) rfl ?_
    exact vg_iretI (pc := 9) (r := 1) (dK D_Searches_oneIfAny 5 rfl) rfl (leK rfl) (leK rfl) (fun _ => rfl) (by obtain rfl := Option.some.inj h; exact ⟨rfl, (inRk rfl), rfl⟩)
def fn_Searches_fewerColorForms (c0 : Nat) (a1 : Int) (a2 : Int) (S : St) : Option (Int) := if 0 ≤ a1 ∧ a1 < 65 then (if 0 ≤ a2 ∧ a2 < 65 then (if (g S (tgt (tgt c0 0) 3) a1.toNat) = (g S (tgt (tgt c0 0) 3) a2.toNat) then (some 0) else (nm (wr ((g S (tgt c0 9) a2.toNat) - (g S (tgt c0 9) a1.toNat))) fun v3 => if 0 ≤ (g S (tgt (tgt c0 0) 3) a1.toNat) ∧ (g S (tgt (tgt c0 0) 3) a1.toNat) < 8 then (bnO (fn_Searches_oneIfAny (g S (tgt c0 8) (((g S (tgt (tgt c0 0) 3) a1.toNat)).toNat)) S) fun p5 => if 0 ≤ (g S (tgt (tgt c0 0) 3) a2.toNat) ∧ (g S (tgt (tgt c0 0) 3) a2.toNat) < 8 then (bnO (fn_Searches_oneIfAny (g S (tgt c0 8) (((g S (tgt (tgt c0 0) 3) a2.toNat)).toNat)) S) fun p7 => nm (wr ((g S (tgt c0 8) (((g S (tgt (tgt c0 0) 3) a1.toNat)).toNat)) + v3)) fun v8 => bnO (fn_Searches_oneIfAny v8 S) fun p9 => nm (wr ((g S (tgt c0 8) (((g S (tgt (tgt c0 0) 3) a2.toNat)).toNat)) - v3)) fun v10 => bnO (fn_Searches_oneIfAny v10 S) fun p11 => some (wr (((p5 + p7) - p9) - p11))) else none) else none)) else none) else none
theorem tf_Searches_fewerColorForms {E : EV} {X : XT} {c0 : Nat} (hc0 : HC X 6 c0) {a1 : Int} (ha1 : inR a1) {a2 : Int} (ha2 : inR a2) {S : St} {q : Int} (h : fn_Searches_fewerColorForms c0 a1 a2 S = some q) : Ev E M_Searches_fewerColorForms [.ref c0, V a1, V a2] (WX X S) 0 0 (KI X q S) := by
  refine Ev.of pn_Searches rfl (leK rfl) ?_
  show Go E M_Searches_fewerColorForms 0 0 0 [(0, .ref c0), (1, V a1), (2, V a2)] [] (WX X S) 0 0 (KI X q S)
  unfold fn_Searches_fewerColorForms at h
  refine g_aloadn (pc := 0) (i0 := 0) (j := 0) (dK D_Searches_fewerColorForms_0 0 rfl) rfl rfl ?_
  refine vg_getO (pc := 1) (ci := 6) (f := 0) (dK D_Searches_fewerColorForms_0 1 rfl) q_379 hc0 (ltK rfl) (ltK rfl) rfl ?_
  refine vg_getA (pc := 4) (ci := 4) (f := 3) (dK D_Searches_fewerColorForms_0 2 rfl) q_315 (hw_6_0 hc0) (ltK rfl) (ltK rfl) rfl ?_
  refine g_iloadn (pc := 7) (i0 := 1) (j := 1) (dK D_Searches_fewerColorForms_0 3 rfl) rfl rfl ?_
  refine gdE h (fun hi1 h => ?_)
  refine vg_iaload (pc := 8) (j := a1.toNat) (dK D_Searches_fewerColorForms_0 4 rfl) (hw_4_3 (hw_6_0 hc0)) rfl hi1 rfl ?_
  refine g_istoren (pc := 9) (i0 := 3) (ls2 := [(3, V (g S (tgt (tgt c0 0) 3) a1.toNat)), (0, .ref c0), (1, V a1), (2, V a2)]) (dK D_Searches_fewerColorForms_0 5 rfl) rfl (ltK rfl) rfl ?_
  refine g_aloadn (pc := 10) (i0 := 0) (j := 1) (dK D_Searches_fewerColorForms_0 6 rfl) rfl rfl ?_
  refine vg_getO (pc := 11) (ci := 6) (f := 0) (dK D_Searches_fewerColorForms_0 7 rfl) q_379 hc0 (ltK rfl) (ltK rfl) rfl ?_
  refine vg_getA (pc := 14) (ci := 4) (f := 3) (dK D_Searches_fewerColorForms_0 8 rfl) q_315 (hw_6_0 hc0) (ltK rfl) (ltK rfl) rfl ?_
  refine g_iloadn (pc := 17) (i0 := 2) (j := 3) (dK D_Searches_fewerColorForms_0 9 rfl) rfl rfl ?_
  refine gdE h (fun hi2 h => ?_)
  refine vg_iaload (pc := 18) (j := a2.toNat) (dK D_Searches_fewerColorForms_0 10 rfl) (hw_4_3 (hw_6_0 hc0)) rfl hi2 rfl ?_
  refine g_istore (pc := 19) (ls2 := [(4, V (g S (tgt (tgt c0 0) 3) a2.toNat)), (3, V (g S (tgt (tgt c0 0) 3) a1.toNat)), (0, .ref c0), (1, V a1), (2, V a2)]) (dK D_Searches_fewerColorForms_0 11 rfl) (ltK rfl) rfl ?_
  refine g_iloadn (pc := 21) (i0 := 3) (j := 1) (dK D_Searches_fewerColorForms_0 12 rfl) rfl rfl ?_
  refine g_iload (pc := 22) (j := 0) (dK D_Searches_fewerColorForms_0 13 rfl) rfl ?_
  refine vg_icmp_ne (pc := 24) (t := 29) (dK D_Searches_fewerColorForms_0 14 rfl) rfl (g_in _ _ _) (g_in _ _ _) (fun hc12 => ?_) (fun hc12 => ?_)
  · replace h := ifN h hc12
    refine g_aloadn (pc := 29) (i0 := 0) (j := 2) (dK D_Searches_fewerColorForms_0 17 rfl) rfl rfl ?_
    refine vg_getA (pc := 30) (ci := 6) (f := 9) (dK D_Searches_fewerColorForms_0 18 rfl) q_389 hc0 (ltK rfl) (ltK rfl) rfl ?_
    refine g_iloadn (pc := 33) (i0 := 2) (j := 4) (dK D_Searches_fewerColorForms_0 19 rfl) rfl rfl ?_
    refine vg_iaload (pc := 34) (j := a2.toNat) (dK D_Searches_fewerColorForms_0 20 rfl) (hw_6_9 hc0) rfl hi2 rfl ?_
    refine g_aloadn (pc := 35) (i0 := 0) (j := 2) (dK D_Searches_fewerColorForms_0 21 rfl) rfl rfl ?_
    refine vg_getA (pc := 36) (ci := 6) (f := 9) (dK D_Searches_fewerColorForms_0 22 rfl) q_389 hc0 (ltK rfl) (ltK rfl) rfl ?_
    refine g_iloadn (pc := 39) (i0 := 1) (j := 3) (dK D_Searches_fewerColorForms_0 23 rfl) rfl rfl ?_
    refine vg_iaload (pc := 40) (j := a1.toNat) (dK D_Searches_fewerColorForms_0 24 rfl) (hw_6_9 hc0) rfl hi1 rfl ?_
    refine vg_isub (pc := 41) (dK D_Searches_fewerColorForms_0 25 rfl) ?_
    refine nmE h (fun v3 e_v3 h => ?_)
    refine gtop e_v3 ?_
    refine g_istore (pc := 42) (ls2 := [(5, V v3), (4, V (g S (tgt (tgt c0 0) 3) a2.toNat)), (3, V (g S (tgt (tgt c0 0) 3) a1.toNat)), (0, .ref c0), (1, V a1), (2, V a2)]) (dK D_Searches_fewerColorForms_0 26 rfl) (ltK rfl) rfl ?_
    refine g_aloadn (pc := 44) (i0 := 0) (j := 3) (dK D_Searches_fewerColorForms_0 27 rfl) rfl rfl ?_
    refine vg_getA (pc := 45) (ci := 6) (f := 8) (dK D_Searches_fewerColorForms_0 28 rfl) q_388 hc0 (ltK rfl) (ltK rfl) rfl ?_
    refine g_iloadn (pc := 48) (i0 := 3) (j := 2) (dK D_Searches_fewerColorForms_0 29 rfl) rfl rfl ?_
    refine gdE h (fun hi4 h => ?_)
    refine vg_iaload (pc := 49) (j := ((g S (tgt (tgt c0 0) 3) a1.toNat)).toNat) (dK D_Searches_fewerColorForms_0 30 rfl) (hw_6_8 hc0) rfl hi4 rfl ?_
    refine bnE h (fun p5 e_p5 h => ?_)
    refine vg_cS (pc := 50) (As := [V (g S (tgt c0 8) (((g S (tgt (tgt c0 0) 3) a1.toNat)).toNat))]) (rest := []) (mc' := 0) (ms' := 0) (dK D_Searches_fewerColorForms_0 31 rfl) K_Searches_198 (fitK rfl) rfl (leK rfl) (leK rfl) (leK rfl) (tf_Searches_oneIfAny (g_in _ _ _) e_p5) (kcI (fun h_p5 => ?_))
    refine g_aloadn (pc := 53) (i0 := 0) (j := 3) (dK D_Searches_fewerColorForms_0 32 rfl) rfl rfl ?_
    refine vg_getA (pc := 54) (ci := 6) (f := 8) (dK D_Searches_fewerColorForms_0 33 rfl) q_388 hc0 (ltK rfl) (ltK rfl) rfl ?_
    refine g_iload (pc := 57) (j := 1) (dK D_Searches_fewerColorForms_0 34 rfl) rfl ?_
    refine gdE h (fun hi6 h => ?_)
    refine vg_iaload (pc := 59) (j := ((g S (tgt (tgt c0 0) 3) a2.toNat)).toNat) (dK D_Searches_fewerColorForms_0 35 rfl) (hw_6_8 hc0) rfl hi6 rfl ?_
    refine bnE h (fun p7 e_p7 h => ?_)
    refine vg_cS (pc := 60) (As := [V (g S (tgt c0 8) (((g S (tgt (tgt c0 0) 3) a2.toNat)).toNat))]) (rest := [V p5]) (mc' := 0) (ms' := 0) (dK D_Searches_fewerColorForms_0 36 rfl) K_Searches_198 (fitK rfl) rfl (leK rfl) (leK rfl) (leK rfl) (tf_Searches_oneIfAny (g_in _ _ _) e_p7) (kcI (fun h_p7 => ?_))
    refine vg_iadd (pc := 63) (dK D_Searches_fewerColorForms_0 37 rfl) ?_
    refine g_aloadn (pc := 64) (i0 := 0) (j := 3) (dK D_Searches_fewerColorForms_0 38 rfl) rfl rfl ?_
    refine vg_getA (pc := 65) (ci := 6) (f := 8) (dK D_Searches_fewerColorForms_0 39 rfl) q_388 hc0 (ltK rfl) (ltK rfl) rfl ?_
    refine g_iloadn (pc := 68) (i0 := 3) (j := 2) (dK D_Searches_fewerColorForms_0 40 rfl) rfl rfl ?_
    refine vg_iaload (pc := 69) (j := ((g S (tgt (tgt c0 0) 3) a1.toNat)).toNat) (dK D_Searches_fewerColorForms_0 41 rfl) (hw_6_8 hc0) rfl hi4 rfl ?_
    refine g_iload (pc := 70) (j := 0) (dK D_Searches_fewerColorForms_0 42 rfl) rfl ?_
    refine vg_iadd (pc := 72) (dK D_Searches_fewerColorForms_0 43 rfl) ?_
    refine nmE h (fun v8 e_v8 h => ?_)
    refine gtop e_v8 ?_
    refine bnE h (fun p9 e_p9 h => ?_)
    refine vg_cS (pc := 73) (As := [V v8]) (rest := [V (p5 + p7)]) (mc' := 0) (ms' := 0) (dK D_Searches_fewerColorForms_0 44 rfl) K_Searches_198 (fitK rfl) rfl (leK rfl) (leK rfl) (leK rfl) (tf_Searches_oneIfAny (Vn_in e_v8) e_p9) (kcI (fun h_p9 => ?_))
    refine vg_isub (pc := 76) (dK D_Searches_fewerColorForms_0 45 rfl) ?_
    refine g_aloadn (pc := 77) (i0 := 0) (j := 3) (dK D_Searches_fewerColorForms_0 46 rfl) rfl rfl ?_
    refine vg_getA (pc := 78) (ci := 6) (f := 8) (dK D_Searches_fewerColorForms_0 47 rfl) q_388 hc0 (ltK rfl) (ltK rfl) rfl ?_
    refine g_iload (pc := 81) (j := 1) (dK D_Searches_fewerColorForms_0 48 rfl) rfl ?_
    refine vg_iaload (pc := 83) (j := ((g S (tgt (tgt c0 0) 3) a2.toNat)).toNat) (dK D_Searches_fewerColorForms_0 49 rfl) (hw_6_8 hc0) rfl hi6 rfl ?_
    refine g_iload (pc := 84) (j := 0) (dK D_Searches_fewerColorForms_1 0 rfl) rfl ?_
    refine vg_isub (pc := 86) (dK D_Searches_fewerColorForms_1 1 rfl) ?_
    refine nmE h (fun v10 e_v10 h => ?_)
    refine gtop e_v10 ?_
    refine bnE h (fun p11 e_p11 h => ?_)
    refine vg_cS (pc := 87) (As := [V v10]) (rest := [V ((p5 + p7) - p9)]) (mc' := 0) (ms' := 0) (dK D_Searches_fewerColorForms_1 2 rfl) K_Searches_198 (fitK rfl) rfl (leK rfl) (leK rfl) (leK rfl) (tf_Searches_oneIfAny (Vn_in e_v10) e_p11) (kcI (fun h_p11 => ?_))
    refine vg_isub (pc := 90) (dK D_Searches_fewerColorForms_1 3 rfl) ?_
    refine gtop (x := (wr (((p5 + p7) - p9) - p11))) rfl ?_
    exact vg_iretI (pc := 91) (r := (wr (((p5 + p7) - p9) - p11))) (dK D_Searches_fewerColorForms_1 4 rfl) rfl (leK rfl) (leK rfl) (fun _ => rfl) (by obtain rfl := Option.some.inj h; exact ⟨rfl, (wr_in _), rfl⟩)
  · replace h := ifP h hc12
    refine vg_iconst (pc := 27) (dK D_Searches_fewerColorForms_0 15 rfl) ?_
    exact vg_iretI (pc := 28) (r := 0) (dK D_Searches_fewerColorForms_0 16 rfl) rfl (leK rfl) (leK rfl) (fun _ => rfl) (by obtain rfl := Option.some.inj h; exact ⟨rfl, (inRk rfl), rfl⟩)
def fn_Plan_exchanged (a0 : Int) (a1 : Int) (a2 : Int) (S : St) : Option (Int) := if a0 = a1 then (some a2) else (if a0 = a2 then (some a1) else (some a0))
theorem tf_Plan_exchanged {E : EV} {X : XT} {a0 : Int} (ha0 : inR a0) {a1 : Int} (ha1 : inR a1) {a2 : Int} (ha2 : inR a2) {S : St} {q : Int} (h : fn_Plan_exchanged a0 a1 a2 S = some q) : Ev E M_Plan_exchanged [V a0, V a1, V a2] (WX X S) 0 0 (KI X q S) := by
  refine Ev.of pn_Plan rfl (leK rfl) ?_
  show Go E M_Plan_exchanged 0 0 0 [(0, V a0), (1, V a1), (2, V a2)] [] (WX X S) 0 0 (KI X q S)
  unfold fn_Plan_exchanged at h
  refine g_iloadn (pc := 0) (i0 := 0) (j := 0) (dK D_Plan_exchanged 0 rfl) rfl rfl ?_
  refine g_iloadn (pc := 1) (i0 := 1) (j := 1) (dK D_Plan_exchanged 1 rfl) rfl rfl ?_
  refine vg_icmp_ne (pc := 2) (t := 7) (dK D_Plan_exchanged 2 rfl) rfl ha0 ha1 (fun hc2 => ?_) (fun hc2 => ?_)
  · replace h := ifN h hc2
    refine g_iloadn (pc := 7) (i0 := 0) (j := 0) (dK D_Plan_exchanged 5 rfl) rfl rfl ?_
    refine g_iloadn (pc := 8) (i0 := 2) (j := 2) (dK D_Plan_exchanged 6 rfl) rfl rfl ?_
    refine vg_icmp_ne (pc := 9) (t := 16) (dK D_Plan_exchanged 7 rfl) rfl ha0 ha2 (fun hc1 => ?_) (fun hc1 => ?_)
    · replace h := ifN h hc1
      refine g_iloadn (pc := 16) (i0 := 0) (j := 0) (dK D_Plan_exchanged 10 rfl) rfl rfl ?_
      exact vg_iretI (pc := 17) (r := a0) (dK D_Plan_exchanged 11 rfl) rfl (leK rfl) (leK rfl) (fun _ => rfl) (by obtain rfl := Option.some.inj h; exact ⟨rfl, ha0, rfl⟩)
    · replace h := ifP h hc1
      refine g_iloadn (pc := 12) (i0 := 1) (j := 1) (dK D_Plan_exchanged 8 rfl) rfl rfl ?_
      refine g_goto (pc := 13) (tgt := 17) (dK D_Plan_exchanged 9 rfl) rfl ?_
      exact vg_iretI (pc := 17) (r := a1) (dK D_Plan_exchanged 11 rfl) rfl (leK rfl) (leK rfl) (fun _ => rfl) (by obtain rfl := Option.some.inj h; exact ⟨rfl, ha1, rfl⟩)
  · replace h := ifP h hc2
    refine g_iloadn (pc := 5) (i0 := 2) (j := 2) (dK D_Plan_exchanged 3 rfl) rfl rfl ?_
    exact vg_iretI (pc := 6) (r := a2) (dK D_Plan_exchanged 4 rfl) rfl (leK rfl) (leK rfl) (fun _ => rfl) (by obtain rfl := Option.some.inj h; exact ⟨rfl, ha2, rfl⟩)
def lb_Plan_exchangedReason_67 (c0 : Nat) (a1 : Int) (a2 : Int) (a3 : Int) (a4 : Int) (S : St) (go : Int → Option ((Int) ⊕ (Unit))) (a5 : Int) : Option ((Int) ⊕ (Unit)) := if (g S (tgt (tgt c0 0) 0) 7) ≤ a5 then (some (.inr ())) else (if 0 ≤ a5 ∧ a5 < 40 then (bnO (fn_Plan_exchanged (g S (tgt (tgt (tgt c0 0) 0) 6) a5.toNat) a2 a3 S) fun p8 => bnO (fn_Ads_areRivals (tgt (tgt c0 0) 0) a1 a5 S) fun p9 => if p9 = true then (if p8 = 0 then (nm (wr (a5 + 1)) fun v12 => go v12) else (nm (wr (a4.tdiv 2)) fun v13 => nm (wr (p8.tdiv 2)) fun v14 => if v14 = v13 then (some (.inl 6)) else (nm (wr (a5 + 1)) fun v15 => go v15))) else (nm (wr (a5 + 1)) fun v11 => go v11)) else none)
def lo_Plan_exchangedReason_67 (c0 : Nat) (a1 : Int) (a2 : Int) (a3 : Int) (a4 : Int) (S : St) : Nat → Int → Option ((Int) ⊕ (Unit)) := lp fun go p => lb_Plan_exchangedReason_67 c0 a1 a2 a3 a4 S go p
theorem tl_Plan_exchangedReason_67 {E : EV} {X : XT} {c0 : Nat} (hc0 : HC X 4 c0) {a1 : Int} (ha1 : inR a1) {a2 : Int} (ha2 : inR a2) {a3 : Int} (ha3 : inR a3) {a4 : Int} (ha4 : inR a4) {S : St} {K : RK → PS → Prop} {q : (Int) ⊕ (Unit)} (hx : ∀ p, q = .inr p → Go E M_Plan_exchangedReason 0 0 143 [] [] (WX X S) 0 0 K) (hr : ∀ p, q = .inl p → inR p → K (.inl (some (V p))) (WX X S)) : ∀ n a, lo_Plan_exchangedReason_67 c0 a1 a2 a3 a4 S n a = some q → inR a → Go E M_Plan_exchangedReason 0 0 67 [(0, .ref c0), (1, V a1), (2, V a2), (3, V a3), (4, V a4), (5, V a)] [] (WX X S) 0 0 K := by
  refine lp_ind (P := fun a : Int => inR a → Go E M_Plan_exchangedReason 0 0 67 [(0, .ref c0), (1, V a1), (2, V a2), (3, V a3), (4, V a4), (5, V a)] [] (WX X S) 0 0 K) (fun go ih a5 h => ?_)
  intro ha5
  show Go E M_Plan_exchangedReason 0 0 67 [(0, .ref c0), (1, V a1), (2, V a2), (3, V a3), (4, V a4), (5, V a5)] [] (WX X S) 0 0 K
  replace h : lb_Plan_exchangedReason_67 c0 a1 a2 a3 a4 S go a5 = some q := h
  unfold lb_Plan_exchangedReason_67 at h
  refine g_iload (pc := 67) (j := 5) (dK D_Plan_exchangedReason_0 35 rfl) rfl ?_
  refine g_aloadn (pc := 69) (i0 := 0) (j := 0) (dK D_Plan_exchangedReason_0 36 rfl) rfl rfl ?_
  refine vg_getO (pc := 70) (ci := 4) (f := 0) (dK D_Plan_exchangedReason_0 37 rfl) q_301 hc0 (ltK rfl) (ltK rfl) rfl ?_
  refine vg_getO (pc := 73) (ci := 8) (f := 0) (dK D_Plan_exchangedReason_0 38 rfl) q_233 (hw_4_0 hc0) (ltK rfl) (ltK rfl) rfl ?_
  refine vg_getI (pc := 76) (ci := 0) (f := 7) (dK D_Plan_exchangedReason_0 39 rfl) q_118 (hw_8_0 (hw_4_0 hc0)) (ltK rfl) (ltK rfl) rfl ?_
  refine vg_icmp_ge (pc := 79) (t := 143) (dK D_Plan_exchangedReason_0 40 rfl) rfl ha5 (g_in _ _ _) (fun hc18 => ?_) (fun hc18 => ?_)
  · replace h := ifP h hc18
    refine gL_weak (ls' := []) sbn ?_
    exact hx _ (Option.some.inj h).symm 
  · replace h := ifN h hc18
    refine g_aloadn (pc := 82) (i0 := 0) (j := 0) (dK D_Plan_exchangedReason_0 41 rfl) rfl rfl ?_
    refine vg_getO (pc := 83) (ci := 4) (f := 0) (dK D_Plan_exchangedReason_0 42 rfl) q_301 hc0 (ltK rfl) (ltK rfl) rfl ?_
    refine vg_getO (pc := 86) (ci := 8) (f := 0) (dK D_Plan_exchangedReason_0 43 rfl) q_233 (hw_4_0 hc0) (ltK rfl) (ltK rfl) rfl ?_
    refine vg_getA (pc := 89) (ci := 0) (f := 6) (dK D_Plan_exchangedReason_0 44 rfl) q_113 (hw_8_0 (hw_4_0 hc0)) (ltK rfl) (ltK rfl) rfl ?_
    refine g_iload (pc := 92) (j := 5) (dK D_Plan_exchangedReason_0 45 rfl) rfl ?_
    refine gdE h (fun hi7 h => ?_)
    refine vg_iaload (pc := 94) (j := a5.toNat) (dK D_Plan_exchangedReason_0 46 rfl) (hw_0_6 (hw_8_0 (hw_4_0 hc0))) rfl hi7 rfl ?_
    refine g_iloadn (pc := 95) (i0 := 2) (j := 2) (dK D_Plan_exchangedReason_0 47 rfl) rfl rfl ?_
    refine g_iloadn (pc := 96) (i0 := 3) (j := 3) (dK D_Plan_exchangedReason_0 48 rfl) rfl rfl ?_
    refine bnE h (fun p8 e_p8 h => ?_)
    refine vg_cS (pc := 97) (As := [V (g S (tgt (tgt (tgt c0 0) 0) 6) a5.toNat), V a2, V a3]) (rest := []) (mc' := 0) (ms' := 0) (dK D_Plan_exchangedReason_0 49 rfl) K_Plan_167 (fitK rfl) rfl (leK rfl) (leK rfl) (leK rfl) (tf_Plan_exchanged (g_in _ _ _) ha2 ha3 e_p8) (kcI (fun h_p8 => ?_))
    refine g_istore (pc := 100) (ls2 := [(6, V p8), (0, .ref c0), (1, V a1), (2, V a2), (3, V a3), (4, V a4), (5, V a5)]) (dK D_Plan_exchangedReason_1 0 rfl) (ltK rfl) rfl ?_
    refine g_aloadn (pc := 102) (i0 := 0) (j := 1) (dK D_Plan_exchangedReason_1 1 rfl) rfl rfl ?_
    refine vg_getO (pc := 103) (ci := 4) (f := 0) (dK D_Plan_exchangedReason_1 2 rfl) q_301 hc0 (ltK rfl) (ltK rfl) rfl ?_
    refine vg_getO (pc := 106) (ci := 8) (f := 0) (dK D_Plan_exchangedReason_1 3 rfl) q_233 (hw_4_0 hc0) (ltK rfl) (ltK rfl) rfl ?_
    refine g_iloadn (pc := 109) (i0 := 1) (j := 2) (dK D_Plan_exchangedReason_1 4 rfl) rfl rfl ?_
    refine g_iload (pc := 110) (j := 6) (dK D_Plan_exchangedReason_1 5 rfl) rfl ?_
    refine bnE h (fun p9 e_p9 h => ?_)
    refine vg_cV (pc := 112) (As := [V a1, V a5]) (rest := []) (mc' := 0) (ms' := 0) (dK D_Plan_exchangedReason_1 6 rfl) K_Plan_170 (fitK rfl) (ltK rfl) (hw_8_0 (hw_4_0 hc0)) rfl (leK rfl) (leK rfl) (leK rfl) (tf_Ads_areRivals (hw_8_0 (hw_4_0 hc0)) ha1 ha5 e_p9) (kcB ?_)
    refine vg_ifB_eq (pc := 115) (b := p9) (t := 137) (dK D_Plan_exchangedReason_1 7 rfl) rfl (fun hc10 => ?_) (fun hc10 => ?_)
    · replace h := ifP h hc10
      refine g_iload (pc := 118) (j := 0) (dK D_Plan_exchangedReason_1 8 rfl) rfl ?_
      refine vg_if_eq (pc := 120) (t := 137) (dK D_Plan_exchangedReason_1 9 rfl) rfl h_p8 (fun hc17 => ?_) (fun hc17 => ?_)
      · replace h := ifP h hc17
        refine nmE h (fun v12 e_v12 h => ?_)
        refine vg_iinc (pc := 137) (j := 6) (a := a5) (z := 1) (ls2 := [(5, V v12), (6, V p8), (0, .ref c0), (1, V a1), (2, V a2), (3, V a3), (4, V a4)]) (dK D_Plan_exchangedReason_1 19 rfl) rfl e_v12 (ltK rfl) rfl ?_
        refine g_goto (pc := 140) (tgt := 67) (dK D_Plan_exchangedReason_1 20 rfl) rfl ?_
        refine gL_weak (ls' := [(0, .ref c0), (1, V a1), (2, V a2), (3, V a3), (4, V a4), (5, V v12)]) (sbc 2 rfl (sbc 3 rfl (sbc 4 rfl (sbc 5 rfl (sbc 6 rfl (sbc 0 rfl sbn)))))) ?_
        replace h := ih _ h
        exact h (Vn_in e_v12)
      · replace h := ifN h hc17
        refine g_iload (pc := 123) (j := 0) (dK D_Plan_exchangedReason_1 10 rfl) rfl ?_
        refine vg_iconst (pc := 125) (dK D_Plan_exchangedReason_1 11 rfl) ?_
        refine vg_idiv (pc := 126) (dK D_Plan_exchangedReason_1 12 rfl) h_p8 (inRk rfl) (by decide) ?_
        refine g_iload (pc := 127) (j := 5) (dK D_Plan_exchangedReason_1 13 rfl) rfl ?_
        refine vg_iconst (pc := 129) (dK D_Plan_exchangedReason_1 14 rfl) ?_
        refine vg_idiv (pc := 130) (dK D_Plan_exchangedReason_1 15 rfl) ha4 (inRk rfl) (by decide) ?_
        refine nmE h (fun v13 e_v13 h => ?_)
        refine gtop e_v13 ?_
        refine nmE h (fun v14 e_v14 h => ?_)
        refine gsk (st' := [V v13, V v14]) (by rw [Vn e_v14]) ?_
        refine vg_icmp_ne (pc := 131) (t := 137) (dK D_Plan_exchangedReason_1 16 rfl) rfl (Vn_in e_v14) (Vn_in e_v13) (fun hc16 => ?_) (fun hc16 => ?_)
        · replace h := ifN h hc16
          refine nmE h (fun v15 e_v15 h => ?_)
          refine vg_iinc (pc := 137) (j := 6) (a := a5) (z := 1) (ls2 := [(5, V v15), (6, V p8), (0, .ref c0), (1, V a1), (2, V a2), (3, V a3), (4, V a4)]) (dK D_Plan_exchangedReason_1 19 rfl) rfl e_v15 (ltK rfl) rfl ?_
          refine g_goto (pc := 140) (tgt := 67) (dK D_Plan_exchangedReason_1 20 rfl) rfl ?_
          refine gL_weak (ls' := [(0, .ref c0), (1, V a1), (2, V a2), (3, V a3), (4, V a4), (5, V v15)]) (sbc 2 rfl (sbc 3 rfl (sbc 4 rfl (sbc 5 rfl (sbc 6 rfl (sbc 0 rfl sbn)))))) ?_
          replace h := ih _ h
          exact h (Vn_in e_v15)
        · replace h := ifP h hc16
          refine vg_bipush (pc := 134) (dK D_Plan_exchangedReason_1 17 rfl) rfl ?_
          exact vg_iretI (pc := 136) (r := 6) (dK D_Plan_exchangedReason_1 18 rfl) rfl (leK rfl) (leK rfl) (fun _ => rfl) (hr _ (Option.some.inj h).symm (inRk rfl))
    · replace h := ifN h hc10
      refine nmE h (fun v11 e_v11 h => ?_)
      refine vg_iinc (pc := 137) (j := 6) (a := a5) (z := 1) (ls2 := [(5, V v11), (6, V p8), (0, .ref c0), (1, V a1), (2, V a2), (3, V a3), (4, V a4)]) (dK D_Plan_exchangedReason_1 19 rfl) rfl e_v11 (ltK rfl) rfl ?_
      refine g_goto (pc := 140) (tgt := 67) (dK D_Plan_exchangedReason_1 20 rfl) rfl ?_
      refine gL_weak (ls' := [(0, .ref c0), (1, V a1), (2, V a2), (3, V a3), (4, V a4), (5, V v11)]) (sbc 2 rfl (sbc 3 rfl (sbc 4 rfl (sbc 5 rfl (sbc 6 rfl (sbc 0 rfl sbn)))))) ?_
      replace h := ih _ h
      exact h (Vn_in e_v11)
def fn_Plan_exchangedReason (c0 : Nat) (a1 : Int) (a2 : Int) (a3 : Int) (S : St) : Option (Int) := if 0 ≤ a1 ∧ a1 < 40 then (bnO (fn_Plan_exchanged (g S (tgt (tgt (tgt c0 0) 0) 6) a1.toNat) a2 a3 S) fun p2 => bnO (fn_Plan_lacksColor c0 (g S (tgt (tgt (tgt c0 0) 0) 2) a1.toNat) p2 S) fun p3 => if p3 = true then (some 4) else (bnO (fn_Plan_isWrongSide (g S (tgt (tgt (tgt c0 0) 0) 3) a1.toNat) p2 S) fun p5 => if p5 = true then (some 5) else (bnS (lo_Plan_exchangedReason_67 c0 a1 a2 a3 p2 S FU 0) (fun p20 => some p20) fun p19 => some 0))) else none
theorem tf_Plan_exchangedReason {E : EV} {X : XT} {c0 : Nat} (hc0 : HC X 4 c0) {a1 : Int} (ha1 : inR a1) {a2 : Int} (ha2 : inR a2) {a3 : Int} (ha3 : inR a3) {S : St} {q : Int} (h : fn_Plan_exchangedReason c0 a1 a2 a3 S = some q) : Ev E M_Plan_exchangedReason [.ref c0, V a1, V a2, V a3] (WX X S) 0 0 (KI X q S) := by
  refine Ev.of pn_Plan rfl (leK rfl) ?_
  show Go E M_Plan_exchangedReason 0 0 0 [(0, .ref c0), (1, V a1), (2, V a2), (3, V a3)] [] (WX X S) 0 0 (KI X q S)
  unfold fn_Plan_exchangedReason at h
  refine g_aloadn (pc := 0) (i0 := 0) (j := 0) (dK D_Plan_exchangedReason_0 0 rfl) rfl rfl ?_
  refine vg_getO (pc := 1) (ci := 4) (f := 0) (dK D_Plan_exchangedReason_0 1 rfl) q_301 hc0 (ltK rfl) (ltK rfl) rfl ?_
  refine vg_getO (pc := 4) (ci := 8) (f := 0) (dK D_Plan_exchangedReason_0 2 rfl) q_233 (hw_4_0 hc0) (ltK rfl) (ltK rfl) rfl ?_
  refine vg_getA (pc := 7) (ci := 0) (f := 6) (dK D_Plan_exchangedReason_0 3 rfl) q_113 (hw_8_0 (hw_4_0 hc0)) (ltK rfl) (ltK rfl) rfl ?_
  refine g_iloadn (pc := 10) (i0 := 1) (j := 1) (dK D_Plan_exchangedReason_0 4 rfl) rfl rfl ?_
  refine gdE h (fun hi1 h => ?_)
  refine vg_iaload (pc := 11) (j := a1.toNat) (dK D_Plan_exchangedReason_0 5 rfl) (hw_0_6 (hw_8_0 (hw_4_0 hc0))) rfl hi1 rfl ?_
  refine g_iloadn (pc := 12) (i0 := 2) (j := 2) (dK D_Plan_exchangedReason_0 6 rfl) rfl rfl ?_
  refine g_iloadn (pc := 13) (i0 := 3) (j := 3) (dK D_Plan_exchangedReason_0 7 rfl) rfl rfl ?_
  refine bnE h (fun p2 e_p2 h => ?_)
  refine vg_cS (pc := 14) (As := [V (g S (tgt (tgt (tgt c0 0) 0) 6) a1.toNat), V a2, V a3]) (rest := []) (mc' := 0) (ms' := 0) (dK D_Plan_exchangedReason_0 8 rfl) K_Plan_167 (fitK rfl) rfl (leK rfl) (leK rfl) (leK rfl) (tf_Plan_exchanged (g_in _ _ _) ha2 ha3 e_p2) (kcI (fun h_p2 => ?_))
  refine g_istore (pc := 17) (ls2 := [(4, V p2), (0, .ref c0), (1, V a1), (2, V a2), (3, V a3)]) (dK D_Plan_exchangedReason_0 9 rfl) (ltK rfl) rfl ?_
  refine g_aloadn (pc := 19) (i0 := 0) (j := 1) (dK D_Plan_exchangedReason_0 10 rfl) rfl rfl ?_
  refine g_aloadn (pc := 20) (i0 := 0) (j := 1) (dK D_Plan_exchangedReason_0 11 rfl) rfl rfl ?_
  refine vg_getO (pc := 21) (ci := 4) (f := 0) (dK D_Plan_exchangedReason_0 12 rfl) q_301 hc0 (ltK rfl) (ltK rfl) rfl ?_
  refine vg_getO (pc := 24) (ci := 8) (f := 0) (dK D_Plan_exchangedReason_0 13 rfl) q_233 (hw_4_0 hc0) (ltK rfl) (ltK rfl) rfl ?_
  refine vg_getA (pc := 27) (ci := 0) (f := 2) (dK D_Plan_exchangedReason_0 14 rfl) q_97 (hw_8_0 (hw_4_0 hc0)) (ltK rfl) (ltK rfl) rfl ?_
  refine g_iloadn (pc := 30) (i0 := 1) (j := 2) (dK D_Plan_exchangedReason_0 15 rfl) rfl rfl ?_
  refine vg_iaload (pc := 31) (j := a1.toNat) (dK D_Plan_exchangedReason_0 16 rfl) (hw_0_2 (hw_8_0 (hw_4_0 hc0))) rfl hi1 rfl ?_
  refine g_iload (pc := 32) (j := 0) (dK D_Plan_exchangedReason_0 17 rfl) rfl ?_
  refine bnE h (fun p3 e_p3 h => ?_)
  refine vg_cV (pc := 34) (As := [V (g S (tgt (tgt (tgt c0 0) 0) 2) a1.toNat), V p2]) (rest := []) (mc' := 0) (ms' := 0) (dK D_Plan_exchangedReason_0 18 rfl) K_Plan_139 (fitK rfl) (ltK rfl) hc0 rfl (leK rfl) (leK rfl) (leK rfl) (tf_Plan_lacksColor hc0 (g_in _ _ _) h_p2 e_p3) (kcB ?_)
  refine vg_ifB_eq (pc := 37) (b := p3) (t := 42) (dK D_Plan_exchangedReason_0 19 rfl) rfl (fun hc4 => ?_) (fun hc4 => ?_)
  · replace h := ifP h hc4
    refine vg_iconst (pc := 40) (dK D_Plan_exchangedReason_0 20 rfl) ?_
    exact vg_iretI (pc := 41) (r := 4) (dK D_Plan_exchangedReason_0 21 rfl) rfl (leK rfl) (leK rfl) (fun _ => rfl) (by obtain rfl := Option.some.inj h; exact ⟨rfl, (inRk rfl), rfl⟩)
  · replace h := ifN h hc4
    refine g_aloadn (pc := 42) (i0 := 0) (j := 1) (dK D_Plan_exchangedReason_0 22 rfl) rfl rfl ?_
    refine vg_getO (pc := 43) (ci := 4) (f := 0) (dK D_Plan_exchangedReason_0 23 rfl) q_301 hc0 (ltK rfl) (ltK rfl) rfl ?_
    refine vg_getO (pc := 46) (ci := 8) (f := 0) (dK D_Plan_exchangedReason_0 24 rfl) q_233 (hw_4_0 hc0) (ltK rfl) (ltK rfl) rfl ?_
    refine vg_getA (pc := 49) (ci := 0) (f := 3) (dK D_Plan_exchangedReason_0 25 rfl) q_102 (hw_8_0 (hw_4_0 hc0)) (ltK rfl) (ltK rfl) rfl ?_
    refine g_iloadn (pc := 52) (i0 := 1) (j := 2) (dK D_Plan_exchangedReason_0 26 rfl) rfl rfl ?_
    refine vg_iaload (pc := 53) (j := a1.toNat) (dK D_Plan_exchangedReason_0 27 rfl) (hw_0_3 (hw_8_0 (hw_4_0 hc0))) rfl hi1 rfl ?_
    refine g_iload (pc := 54) (j := 0) (dK D_Plan_exchangedReason_0 28 rfl) rfl ?_
    refine bnE h (fun p5 e_p5 h => ?_)
    refine vg_cS (pc := 56) (As := [V (g S (tgt (tgt (tgt c0 0) 0) 3) a1.toNat), V p2]) (rest := []) (mc' := 0) (ms' := 0) (dK D_Plan_exchangedReason_0 29 rfl) K_Plan_146 (fitK rfl) rfl (leK rfl) (leK rfl) (leK rfl) (tf_Plan_isWrongSide (g_in _ _ _) h_p2 e_p5) (kcB ?_)
    refine vg_ifB_eq (pc := 59) (b := p5) (t := 64) (dK D_Plan_exchangedReason_0 30 rfl) rfl (fun hc6 => ?_) (fun hc6 => ?_)
    · replace h := ifP h hc6
      refine vg_iconst (pc := 62) (dK D_Plan_exchangedReason_0 31 rfl) ?_
      exact vg_iretI (pc := 63) (r := 5) (dK D_Plan_exchangedReason_0 32 rfl) rfl (leK rfl) (leK rfl) (fun _ => rfl) (by obtain rfl := Option.some.inj h; exact ⟨rfl, (inRk rfl), rfl⟩)
    · replace h := ifN h hc6
      refine vg_iconst (pc := 64) (dK D_Plan_exchangedReason_0 33 rfl) ?_
      refine g_istore (pc := 65) (ls2 := [(5, V 0), (4, V p2), (0, .ref c0), (1, V a1), (2, V a2), (3, V a3)]) (dK D_Plan_exchangedReason_0 34 rfl) (ltK rfl) rfl ?_
      refine bnSE h (fun p20 e_p20 h => ?_) (fun p19 e_p19 h => ?_)
      · refine gL_weak (ls' := [(0, .ref c0), (1, V a1), (2, V a2), (3, V a3), (4, V p2), (5, V 0)]) (sbc 2 rfl (sbc 3 rfl (sbc 4 rfl (sbc 5 rfl (sbc 1 rfl (sbc 0 rfl sbn)))))) ?_
        refine tl_Plan_exchangedReason_67 hc0 ha1 ha2 ha3 h_p2 (fun _ e => slr e) (fun p e hr_p20 => ?_) FU 0 e_p20 (inRk rfl)
        have e := Sum.inl.inj e
        subst e
        exact (by obtain rfl := Option.some.inj h; exact ⟨rfl, hr_p20, rfl⟩)
      · refine gL_weak (ls' := [(0, .ref c0), (1, V a1), (2, V a2), (3, V a3), (4, V p2), (5, V 0)]) (sbc 2 rfl (sbc 3 rfl (sbc 4 rfl (sbc 5 rfl (sbc 1 rfl (sbc 0 rfl sbn)))))) ?_
        refine tl_Plan_exchangedReason_67 hc0 ha1 ha2 ha3 h_p2 (fun p e => ?_) (fun _ e => srl e) FU 0 e_p19 (inRk rfl)
        have e := Sum.inr.inj e
        subst e
        refine vg_iconst (pc := 143) (dK D_Plan_exchangedReason_1 21 rfl) ?_
        exact vg_iretI (pc := 144) (r := 0) (dK D_Plan_exchangedReason_1 22 rfl) rfl (leK rfl) (leK rfl) (fun _ => rfl) (by obtain rfl := Option.some.inj h; exact ⟨rfl, (inRk rfl), rfl⟩)
def lb_Plan_exchangeReason_45 (c0 : Nat) (a1 : Int) (a2 : Int) (S : St) (go : Int × Int → Option (Int)) (a3 : Int) (a4 : Int) : Option (Int) := if (g S (tgt (tgt c0 0) 0) 7) ≤ a4 then (some a3) else (if a1 = a2 then (some a3) else (if 0 ≤ a4 ∧ a4 < 40 then (if (g S (tgt (tgt (tgt c0 0) 0) 6) a4.toNat) = a1 then (bnO (fn_Plan_exchangedReason c0 a4 a1 a2 S) fun p8 => bnO (fn_Plan_lowerReason a3 p8 S) fun p9 => nm (wr (a4 + 1)) fun v10 => go (p9, v10)) else (if (g S (tgt (tgt (tgt c0 0) 0) 6) a4.toNat) = a2 then (bnO (fn_Plan_exchangedReason c0 a4 a1 a2 S) fun p12 => bnO (fn_Plan_lowerReason a3 p12 S) fun p13 => nm (wr (a4 + 1)) fun v14 => go (p13, v14)) else (nm (wr (a4 + 1)) fun v11 => go (a3, v11)))) else none))
def lo_Plan_exchangeReason_45 (c0 : Nat) (a1 : Int) (a2 : Int) (S : St) : Nat → Int × Int → Option (Int) := lp fun go p => lb_Plan_exchangeReason_45 c0 a1 a2 S go p.1 p.2
theorem tl_Plan_exchangeReason_45 {E : EV} {X : XT} {c0 : Nat} (hc0 : HC X 4 c0) {a1 : Int} (ha1 : inR a1) {a2 : Int} (ha2 : inR a2) {S : St} {K : RK → PS → Prop} {q : Int} (hx : inR q → Go E M_Plan_exchangeReason 0 0 118 [(3, V q)] [] (WX X S) 0 0 K) : ∀ n a, lo_Plan_exchangeReason_45 c0 a1 a2 S n a = some q → inR a.1 → inR a.2 → Go E M_Plan_exchangeReason 0 0 45 [(0, .ref c0), (1, V a1), (2, V a2), (3, V a.1), (4, V a.2)] [] (WX X S) 0 0 K := by
  refine lp_ind (P := fun a : Int × Int => inR a.1 → inR a.2 → Go E M_Plan_exchangeReason 0 0 45 [(0, .ref c0), (1, V a1), (2, V a2), (3, V a.1), (4, V a.2)] [] (WX X S) 0 0 K) (fun go ih a h => ?_)
  obtain ⟨a3, a4⟩ := a
  intro ha3 ha4
  show Go E M_Plan_exchangeReason 0 0 45 [(0, .ref c0), (1, V a1), (2, V a2), (3, V a3), (4, V a4)] [] (WX X S) 0 0 K
  replace h : lb_Plan_exchangeReason_45 c0 a1 a2 S go a3 a4 = some q := h
  unfold lb_Plan_exchangeReason_45 at h
  refine g_iload (pc := 45) (j := 4) (dK D_Plan_exchangeReason_0 28 rfl) rfl ?_
  refine g_aloadn (pc := 47) (i0 := 0) (j := 0) (dK D_Plan_exchangeReason_0 29 rfl) rfl rfl ?_
  refine vg_getO (pc := 48) (ci := 4) (f := 0) (dK D_Plan_exchangeReason_0 30 rfl) q_301 hc0 (ltK rfl) (ltK rfl) rfl ?_
  refine vg_getO (pc := 51) (ci := 8) (f := 0) (dK D_Plan_exchangeReason_0 31 rfl) q_233 (hw_4_0 hc0) (ltK rfl) (ltK rfl) rfl ?_
  refine vg_getI (pc := 54) (ci := 0) (f := 7) (dK D_Plan_exchangeReason_0 32 rfl) q_118 (hw_8_0 (hw_4_0 hc0)) (ltK rfl) (ltK rfl) rfl ?_
  refine vg_icmp_ge (pc := 57) (t := 118) (dK D_Plan_exchangeReason_0 33 rfl) rfl ha4 (g_in _ _ _) (fun hc18 => ?_) (fun hc18 => ?_)
  · replace h := ifP h hc18
    obtain rfl := Option.some.inj h
    refine gL_weak (ls' := [(3, V a3)]) (sbc 3 rfl sbn) ?_
    exact hx ha3
  · replace h := ifN h hc18
    refine g_iloadn (pc := 60) (i0 := 1) (j := 1) (dK D_Plan_exchangeReason_0 34 rfl) rfl rfl ?_
    refine g_iloadn (pc := 61) (i0 := 2) (j := 2) (dK D_Plan_exchangeReason_0 35 rfl) rfl rfl ?_
    refine vg_icmp_eq (pc := 62) (t := 118) (dK D_Plan_exchangeReason_0 36 rfl) rfl ha1 ha2 (fun hc17 => ?_) (fun hc17 => ?_)
    · replace h := ifP h hc17
      obtain rfl := Option.some.inj h
      refine gL_weak (ls' := [(3, V a3)]) (sbc 3 rfl sbn) ?_
      exact hx ha3
    · replace h := ifN h hc17
      refine g_aloadn (pc := 65) (i0 := 0) (j := 0) (dK D_Plan_exchangeReason_0 37 rfl) rfl rfl ?_
      refine vg_getO (pc := 66) (ci := 4) (f := 0) (dK D_Plan_exchangeReason_0 38 rfl) q_301 hc0 (ltK rfl) (ltK rfl) rfl ?_
      refine vg_getO (pc := 69) (ci := 8) (f := 0) (dK D_Plan_exchangeReason_0 39 rfl) q_233 (hw_4_0 hc0) (ltK rfl) (ltK rfl) rfl ?_
      refine vg_getA (pc := 72) (ci := 0) (f := 6) (dK D_Plan_exchangeReason_0 40 rfl) q_113 (hw_8_0 (hw_4_0 hc0)) (ltK rfl) (ltK rfl) rfl ?_
      refine g_iload (pc := 75) (j := 4) (dK D_Plan_exchangeReason_0 41 rfl) rfl ?_
      refine gdE h (fun hi7 h => ?_)
      refine vg_iaload (pc := 77) (j := a4.toNat) (dK D_Plan_exchangeReason_0 42 rfl) (hw_0_6 (hw_8_0 (hw_4_0 hc0))) rfl hi7 rfl ?_
      refine g_iloadn (pc := 78) (i0 := 1) (j := 1) (dK D_Plan_exchangeReason_0 43 rfl) rfl rfl ?_
      refine vg_icmp_eq (pc := 79) (t := 99) (dK D_Plan_exchangeReason_0 44 rfl) rfl (g_in _ _ _) ha1 (fun hc16 => ?_) (fun hc16 => ?_)
      · replace h := ifP h hc16
        refine g_iloadn (pc := 99) (i0 := 3) (j := 3) (dK D_Plan_exchangeReason_1 3 rfl) rfl rfl ?_
        refine g_aloadn (pc := 100) (i0 := 0) (j := 0) (dK D_Plan_exchangeReason_1 4 rfl) rfl rfl ?_
        refine g_iload (pc := 101) (j := 4) (dK D_Plan_exchangeReason_1 5 rfl) rfl ?_
        refine g_iloadn (pc := 103) (i0 := 1) (j := 1) (dK D_Plan_exchangeReason_1 6 rfl) rfl rfl ?_
        refine g_iloadn (pc := 104) (i0 := 2) (j := 2) (dK D_Plan_exchangeReason_1 7 rfl) rfl rfl ?_
        refine bnE h (fun p8 e_p8 h => ?_)
        refine vg_cV (pc := 105) (As := [V a4, V a1, V a2]) (rest := [V a3]) (mc' := 0) (ms' := 0) (dK D_Plan_exchangeReason_1 8 rfl) K_Plan_163 (fitK rfl) (ltK rfl) hc0 rfl (leK rfl) (leK rfl) (leK rfl) (tf_Plan_exchangedReason hc0 ha4 ha1 ha2 e_p8) (kcI (fun h_p8 => ?_))
        refine bnE h (fun p9 e_p9 h => ?_)
        refine vg_cS (pc := 108) (As := [V a3, V p8]) (rest := []) (mc' := 0) (ms' := 0) (dK D_Plan_exchangeReason_1 9 rfl) K_Plan_159 (fitK rfl) rfl (leK rfl) (leK rfl) (leK rfl) (tf_Plan_lowerReason ha3 h_p8 e_p9) (kcI (fun h_p9 => ?_))
        refine g_istoren (pc := 111) (i0 := 3) (ls2 := [(3, V p9), (0, .ref c0), (1, V a1), (2, V a2), (4, V a4)]) (dK D_Plan_exchangeReason_1 10 rfl) rfl (ltK rfl) rfl ?_
        refine nmE h (fun v10 e_v10 h => ?_)
        refine vg_iinc (pc := 112) (j := 4) (a := a4) (z := 1) (ls2 := [(4, V v10), (3, V p9), (0, .ref c0), (1, V a1), (2, V a2)]) (dK D_Plan_exchangeReason_1 11 rfl) rfl e_v10 (ltK rfl) rfl ?_
        refine g_goto (pc := 115) (tgt := 45) (dK D_Plan_exchangeReason_1 12 rfl) rfl ?_
        refine gL_weak (ls' := [(0, .ref c0), (1, V a1), (2, V a2), (3, V p9), (4, V v10)]) (sbc 2 rfl (sbc 3 rfl (sbc 4 rfl (sbc 1 rfl (sbc 0 rfl sbn))))) ?_
        replace h := ih _ h
        exact h h_p9 (Vn_in e_v10)
      · replace h := ifN h hc16
        refine g_aloadn (pc := 82) (i0 := 0) (j := 0) (dK D_Plan_exchangeReason_0 45 rfl) rfl rfl ?_
        refine vg_getO (pc := 83) (ci := 4) (f := 0) (dK D_Plan_exchangeReason_0 46 rfl) q_301 hc0 (ltK rfl) (ltK rfl) rfl ?_
        refine vg_getO (pc := 86) (ci := 8) (f := 0) (dK D_Plan_exchangeReason_0 47 rfl) q_233 (hw_4_0 hc0) (ltK rfl) (ltK rfl) rfl ?_
        refine vg_getA (pc := 89) (ci := 0) (f := 6) (dK D_Plan_exchangeReason_0 48 rfl) q_113 (hw_8_0 (hw_4_0 hc0)) (ltK rfl) (ltK rfl) rfl ?_
        refine g_iload (pc := 92) (j := 4) (dK D_Plan_exchangeReason_0 49 rfl) rfl ?_
        refine vg_iaload (pc := 94) (j := a4.toNat) (dK D_Plan_exchangeReason_1 0 rfl) (hw_0_6 (hw_8_0 (hw_4_0 hc0))) rfl hi7 rfl ?_
        refine g_iloadn (pc := 95) (i0 := 2) (j := 2) (dK D_Plan_exchangeReason_1 1 rfl) rfl rfl ?_
        refine vg_icmp_ne (pc := 96) (t := 112) (dK D_Plan_exchangeReason_1 2 rfl) rfl (g_in _ _ _) ha2 (fun hc15 => ?_) (fun hc15 => ?_)
        · replace h := ifN h hc15
          refine nmE h (fun v11 e_v11 h => ?_)
          refine vg_iinc (pc := 112) (j := 4) (a := a4) (z := 1) (ls2 := [(4, V v11), (0, .ref c0), (1, V a1), (2, V a2), (3, V a3)]) (dK D_Plan_exchangeReason_1 11 rfl) rfl e_v11 (ltK rfl) rfl ?_
          refine g_goto (pc := 115) (tgt := 45) (dK D_Plan_exchangeReason_1 12 rfl) rfl ?_
          refine gL_weak (ls' := [(0, .ref c0), (1, V a1), (2, V a2), (3, V a3), (4, V v11)]) (sbc 1 rfl (sbc 2 rfl (sbc 3 rfl (sbc 4 rfl (sbc 0 rfl sbn))))) ?_
          replace h := ih _ h
          exact h ha3 (Vn_in e_v11)
        · replace h := ifP h hc15
          refine g_iloadn (pc := 99) (i0 := 3) (j := 3) (dK D_Plan_exchangeReason_1 3 rfl) rfl rfl ?_
          refine g_aloadn (pc := 100) (i0 := 0) (j := 0) (dK D_Plan_exchangeReason_1 4 rfl) rfl rfl ?_
          refine g_iload (pc := 101) (j := 4) (dK D_Plan_exchangeReason_1 5 rfl) rfl ?_
          refine g_iloadn (pc := 103) (i0 := 1) (j := 1) (dK D_Plan_exchangeReason_1 6 rfl) rfl rfl ?_
          refine g_iloadn (pc := 104) (i0 := 2) (j := 2) (dK D_Plan_exchangeReason_1 7 rfl) rfl rfl ?_
          refine bnE h (fun p12 e_p12 h => ?_)
          refine vg_cV (pc := 105) (As := [V a4, V a1, V a2]) (rest := [V a3]) (mc' := 0) (ms' := 0) (dK D_Plan_exchangeReason_1 8 rfl) K_Plan_163 (fitK rfl) (ltK rfl) hc0 rfl (leK rfl) (leK rfl) (leK rfl) (tf_Plan_exchangedReason hc0 ha4 ha1 ha2 e_p12) (kcI (fun h_p12 => ?_))
          refine bnE h (fun p13 e_p13 h => ?_)
          refine vg_cS (pc := 108) (As := [V a3, V p12]) (rest := []) (mc' := 0) (ms' := 0) (dK D_Plan_exchangeReason_1 9 rfl) K_Plan_159 (fitK rfl) rfl (leK rfl) (leK rfl) (leK rfl) (tf_Plan_lowerReason ha3 h_p12 e_p13) (kcI (fun h_p13 => ?_))
          refine g_istoren (pc := 111) (i0 := 3) (ls2 := [(3, V p13), (0, .ref c0), (1, V a1), (2, V a2), (4, V a4)]) (dK D_Plan_exchangeReason_1 10 rfl) rfl (ltK rfl) rfl ?_
          refine nmE h (fun v14 e_v14 h => ?_)
          refine vg_iinc (pc := 112) (j := 4) (a := a4) (z := 1) (ls2 := [(4, V v14), (3, V p13), (0, .ref c0), (1, V a1), (2, V a2)]) (dK D_Plan_exchangeReason_1 11 rfl) rfl e_v14 (ltK rfl) rfl ?_
          refine g_goto (pc := 115) (tgt := 45) (dK D_Plan_exchangeReason_1 12 rfl) rfl ?_
          refine gL_weak (ls' := [(0, .ref c0), (1, V a1), (2, V a2), (3, V p13), (4, V v14)]) (sbc 2 rfl (sbc 3 rfl (sbc 4 rfl (sbc 1 rfl (sbc 0 rfl sbn))))) ?_
          replace h := ih _ h
          exact h h_p13 (Vn_in e_v14)
def fn_Plan_exchangeReason (c0 : Nat) (a1 : Int) (a2 : Int) (S : St) : Option (Int) := bnO (fn_Plan_isPrinted c0 a1 S) fun p1 => if p1 = true then (some 2) else (bnO (fn_Plan_isPrinted c0 a2 S) fun p3 => if p3 = true then (some 2) else (if 0 ≤ a1 ∧ a1 < 65 then (if (g S (tgt c0 6) a1.toNat) = (-1) then (if 0 ≤ a2 ∧ a2 < 65 then (if (g S (tgt c0 6) a2.toNat) = (-1) then (bnO (lo_Plan_exchangeReason_45 c0 a1 a2 S FU (0, 0)) fun p19 => some p19) else (some 3)) else none) else (some 3)) else none))
theorem tf_Plan_exchangeReason {E : EV} {X : XT} {c0 : Nat} (hc0 : HC X 4 c0) {a1 : Int} (ha1 : inR a1) {a2 : Int} (ha2 : inR a2) {S : St} {q : Int} (h : fn_Plan_exchangeReason c0 a1 a2 S = some q) : Ev E M_Plan_exchangeReason [.ref c0, V a1, V a2] (WX X S) 0 0 (KI X q S) := by
  refine Ev.of pn_Plan rfl (leK rfl) ?_
  show Go E M_Plan_exchangeReason 0 0 0 [(0, .ref c0), (1, V a1), (2, V a2)] [] (WX X S) 0 0 (KI X q S)
  unfold fn_Plan_exchangeReason at h
  refine g_aloadn (pc := 0) (i0 := 0) (j := 0) (dK D_Plan_exchangeReason_0 0 rfl) rfl rfl ?_
  refine g_iloadn (pc := 1) (i0 := 1) (j := 1) (dK D_Plan_exchangeReason_0 1 rfl) rfl rfl ?_
  refine bnE h (fun p1 e_p1 h => ?_)
  refine vg_cV (pc := 2) (As := [V a1]) (rest := []) (mc' := 0) (ms' := 0) (dK D_Plan_exchangeReason_0 2 rfl) K_Plan_135 (fitK rfl) (ltK rfl) hc0 rfl (leK rfl) (leK rfl) (leK rfl) (tf_Plan_isPrinted hc0 ha1 e_p1) (kcB ?_)
  refine vg_ifB_ne (pc := 5) (b := p1) (t := 16) (dK D_Plan_exchangeReason_0 3 rfl) rfl (fun hc2 => ?_) (fun hc2 => ?_)
  · replace h := ifP h hc2
    refine vg_iconst (pc := 16) (dK D_Plan_exchangeReason_0 8 rfl) ?_
    exact vg_iretI (pc := 17) (r := 2) (dK D_Plan_exchangeReason_0 9 rfl) rfl (leK rfl) (leK rfl) (fun _ => rfl) (by obtain rfl := Option.some.inj h; exact ⟨rfl, (inRk rfl), rfl⟩)
  · replace h := ifN h hc2
    refine g_aloadn (pc := 8) (i0 := 0) (j := 0) (dK D_Plan_exchangeReason_0 4 rfl) rfl rfl ?_
    refine g_iloadn (pc := 9) (i0 := 2) (j := 2) (dK D_Plan_exchangeReason_0 5 rfl) rfl rfl ?_
    refine bnE h (fun p3 e_p3 h => ?_)
    refine vg_cV (pc := 10) (As := [V a2]) (rest := []) (mc' := 0) (ms' := 0) (dK D_Plan_exchangeReason_0 6 rfl) K_Plan_135 (fitK rfl) (ltK rfl) hc0 rfl (leK rfl) (leK rfl) (leK rfl) (tf_Plan_isPrinted hc0 ha2 e_p3) (kcB ?_)
    refine vg_ifB_eq (pc := 13) (b := p3) (t := 18) (dK D_Plan_exchangeReason_0 7 rfl) rfl (fun hc4 => ?_) (fun hc4 => ?_)
    · replace h := ifP h hc4
      refine vg_iconst (pc := 16) (dK D_Plan_exchangeReason_0 8 rfl) ?_
      exact vg_iretI (pc := 17) (r := 2) (dK D_Plan_exchangeReason_0 9 rfl) rfl (leK rfl) (leK rfl) (fun _ => rfl) (by obtain rfl := Option.some.inj h; exact ⟨rfl, (inRk rfl), rfl⟩)
    · replace h := ifN h hc4
      refine g_aloadn (pc := 18) (i0 := 0) (j := 0) (dK D_Plan_exchangeReason_0 10 rfl) rfl rfl ?_
      refine vg_getA (pc := 19) (ci := 4) (f := 6) (dK D_Plan_exchangeReason_0 11 rfl) q_320 hc0 (ltK rfl) (ltK rfl) rfl ?_
      refine g_iloadn (pc := 22) (i0 := 1) (j := 1) (dK D_Plan_exchangeReason_0 12 rfl) rfl rfl ?_
      refine gdE h (fun hi5 h => ?_)
      refine vg_iaload (pc := 23) (j := a1.toNat) (dK D_Plan_exchangeReason_0 13 rfl) (hw_4_6 hc0) rfl hi5 rfl ?_
      refine vg_iconst (pc := 24) (dK D_Plan_exchangeReason_0 14 rfl) ?_
      refine vg_icmp_ne (pc := 25) (t := 38) (dK D_Plan_exchangeReason_0 15 rfl) rfl (g_in _ _ _) (inRk rfl) (fun hc21 => ?_) (fun hc21 => ?_)
      · replace h := ifN h hc21
        refine vg_iconst (pc := 38) (dK D_Plan_exchangeReason_0 22 rfl) ?_
        exact vg_iretI (pc := 39) (r := 3) (dK D_Plan_exchangeReason_0 23 rfl) rfl (leK rfl) (leK rfl) (fun _ => rfl) (by obtain rfl := Option.some.inj h; exact ⟨rfl, (inRk rfl), rfl⟩)
      · replace h := ifP h hc21
        refine g_aloadn (pc := 28) (i0 := 0) (j := 0) (dK D_Plan_exchangeReason_0 16 rfl) rfl rfl ?_
        refine vg_getA (pc := 29) (ci := 4) (f := 6) (dK D_Plan_exchangeReason_0 17 rfl) q_320 hc0 (ltK rfl) (ltK rfl) rfl ?_
        refine g_iloadn (pc := 32) (i0 := 2) (j := 2) (dK D_Plan_exchangeReason_0 18 rfl) rfl rfl ?_
        refine gdE h (fun hi6 h => ?_)
        refine vg_iaload (pc := 33) (j := a2.toNat) (dK D_Plan_exchangeReason_0 19 rfl) (hw_4_6 hc0) rfl hi6 rfl ?_
        refine vg_iconst (pc := 34) (dK D_Plan_exchangeReason_0 20 rfl) ?_
        refine vg_icmp_eq (pc := 35) (t := 40) (dK D_Plan_exchangeReason_0 21 rfl) rfl (g_in _ _ _) (inRk rfl) (fun hc20 => ?_) (fun hc20 => ?_)
        · replace h := ifP h hc20
          refine vg_iconst (pc := 40) (dK D_Plan_exchangeReason_0 24 rfl) ?_
          refine g_istoren (pc := 41) (i0 := 3) (ls2 := [(3, V 0), (0, .ref c0), (1, V a1), (2, V a2)]) (dK D_Plan_exchangeReason_0 25 rfl) rfl (ltK rfl) rfl ?_
          refine vg_iconst (pc := 42) (dK D_Plan_exchangeReason_0 26 rfl) ?_
          refine g_istore (pc := 43) (ls2 := [(4, V 0), (3, V 0), (0, .ref c0), (1, V a1), (2, V a2)]) (dK D_Plan_exchangeReason_0 27 rfl) (ltK rfl) rfl ?_
          refine bnE h (fun p19 e_p19 h => ?_)
          refine gL_weak (ls' := [(0, .ref c0), (1, V a1), (2, V a2), (3, V 0), (4, V 0)]) (sbc 2 rfl (sbc 3 rfl (sbc 4 rfl (sbc 1 rfl (sbc 0 rfl sbn))))) ?_
          refine tl_Plan_exchangeReason_45 hc0 ha1 ha2 (fun hx3_p19 => ?_) FU (0, 0) e_p19 (inRk rfl) (inRk rfl)
          refine g_iloadn (pc := 118) (i0 := 3) (j := 0) (dK D_Plan_exchangeReason_1 13 rfl) rfl rfl ?_
          exact vg_iretI (pc := 119) (r := p19) (dK D_Plan_exchangeReason_1 14 rfl) rfl (leK rfl) (leK rfl) (fun _ => rfl) (by obtain rfl := Option.some.inj h; exact ⟨rfl, hx3_p19, rfl⟩)
        · replace h := ifN h hc20
          refine vg_iconst (pc := 38) (dK D_Plan_exchangeReason_0 22 rfl) ?_
          exact vg_iretI (pc := 39) (r := 3) (dK D_Plan_exchangeReason_0 23 rfl) rfl (leK rfl) (leK rfl) (fun _ => rfl) (by obtain rfl := Option.some.inj h; exact ⟨rfl, (inRk rfl), rfl⟩)
def lb_Searches_bestExchange_26 (c0 : Nat) (a3 : Int) (S : St) (go : Int × Int × Int → Option (Int × Int)) (a1 : Int) (a2 : Int) (a4 : Int) : Option (Int × Int) := if (g S (tgt c0 0) 1) < a4 then (some (a1, a2)) else (bnO (fn_Searches_fewerColorForms c0 a3 a4 S) fun p3 => if p3 ≤ a2 then (nm (wr (a4 + 1)) fun v4 => go (a1, a2, v4)) else (bnO (fn_Plan_exchangeReason (tgt c0 0) a3 a4 S) fun p5 => if p5 = 0 then (nm (wr ((100 * a3) + a4)) fun v7 => nm (wr (a4 + 1)) fun v8 => go (v7, p3, v8)) else (nm (wr (a4 + 1)) fun v6 => go (a1, a2, v6))))
def lo_Searches_bestExchange_26 (c0 : Nat) (a3 : Int) (S : St) : Nat → Int × Int × Int → Option (Int × Int) := lp fun go p => lb_Searches_bestExchange_26 c0 a3 S go p.1 p.2.1 p.2.2
theorem tl_Searches_bestExchange_26 {E : EV} {X : XT} {c0 : Nat} (hc0 : HC X 6 c0) {a3 : Int} (ha3 : inR a3) {S : St} {K : RK → PS → Prop} {q : Int × Int} (hx : inR q.1 → inR q.2 → Go E M_Searches_bestExchange 0 0 83 [(0, .ref c0), (1, V q.1), (2, V q.2), (3, V a3)] [] (WX X S) 0 0 K) : ∀ n a, lo_Searches_bestExchange_26 c0 a3 S n a = some q → inR a.1 → inR a.2.1 → inR a.2.2 → Go E M_Searches_bestExchange 0 0 26 [(0, .ref c0), (1, V a.1), (2, V a.2.1), (3, V a3), (4, V a.2.2)] [] (WX X S) 0 0 K := by
  refine lp_ind (P := fun a : Int × Int × Int => inR a.1 → inR a.2.1 → inR a.2.2 → Go E M_Searches_bestExchange 0 0 26 [(0, .ref c0), (1, V a.1), (2, V a.2.1), (3, V a3), (4, V a.2.2)] [] (WX X S) 0 0 K) (fun go ih a h => ?_)
  obtain ⟨a1, a2, a4⟩ := a
  intro ha1 ha2 ha4
  show Go E M_Searches_bestExchange 0 0 26 [(0, .ref c0), (1, V a1), (2, V a2), (3, V a3), (4, V a4)] [] (WX X S) 0 0 K
  replace h : lb_Searches_bestExchange_26 c0 a3 S go a1 a2 a4 = some q := h
  unfold lb_Searches_bestExchange_26 at h
  refine g_iload (pc := 26) (j := 4) (dK D_Searches_bestExchange 17 rfl) rfl ?_
  refine g_aloadn (pc := 28) (i0 := 0) (j := 0) (dK D_Searches_bestExchange 18 rfl) rfl rfl ?_
  refine vg_getO (pc := 29) (ci := 6) (f := 0) (dK D_Searches_bestExchange 19 rfl) q_379 hc0 (ltK rfl) (ltK rfl) rfl ?_
  refine vg_getI (pc := 32) (ci := 4) (f := 1) (dK D_Searches_bestExchange 20 rfl) q_306 (hw_6_0 hc0) (ltK rfl) (ltK rfl) rfl ?_
  refine vg_icmp_gt (pc := 35) (t := 83) (dK D_Searches_bestExchange 21 rfl) rfl ha4 (g_in _ _ _) (fun hc11 => ?_) (fun hc11 => ?_)
  · replace h := ifP h hc11
    obtain rfl := Option.some.inj h
    refine gL_weak (ls' := [(0, .ref c0), (1, V a1), (2, V a2), (3, V a3)]) (sbc 0 rfl (sbc 1 rfl (sbc 2 rfl (sbc 3 rfl sbn)))) ?_
    exact hx ha1 ha2
  · replace h := ifN h hc11
    refine g_aloadn (pc := 38) (i0 := 0) (j := 0) (dK D_Searches_bestExchange 22 rfl) rfl rfl ?_
    refine g_iloadn (pc := 39) (i0 := 3) (j := 3) (dK D_Searches_bestExchange 23 rfl) rfl rfl ?_
    refine g_iload (pc := 40) (j := 4) (dK D_Searches_bestExchange 24 rfl) rfl ?_
    refine bnE h (fun p3 e_p3 h => ?_)
    refine vg_cV (pc := 42) (As := [V a3, V a4]) (rest := []) (mc' := 0) (ms' := 0) (dK D_Searches_bestExchange 25 rfl) K_Searches_184 (fitK rfl) (ltK rfl) hc0 rfl (leK rfl) (leK rfl) (leK rfl) (tf_Searches_fewerColorForms hc0 ha3 ha4 e_p3) (kcI (fun h_p3 => ?_))
    refine g_istore (pc := 45) (ls2 := [(5, V p3), (0, .ref c0), (1, V a1), (2, V a2), (3, V a3), (4, V a4)]) (dK D_Searches_bestExchange 26 rfl) (ltK rfl) rfl ?_
    refine g_iload (pc := 47) (j := 0) (dK D_Searches_bestExchange 27 rfl) rfl ?_
    refine g_iloadn (pc := 49) (i0 := 2) (j := 3) (dK D_Searches_bestExchange 28 rfl) rfl rfl ?_
    refine vg_icmp_le (pc := 50) (t := 77) (dK D_Searches_bestExchange 29 rfl) rfl h_p3 ha2 (fun hc10 => ?_) (fun hc10 => ?_)
    · replace h := ifP h hc10
      refine nmE h (fun v4 e_v4 h => ?_)
      refine vg_iinc (pc := 77) (j := 5) (a := a4) (z := 1) (ls2 := [(4, V v4), (5, V p3), (0, .ref c0), (1, V a1), (2, V a2), (3, V a3)]) (dK D_Searches_bestExchange 44 rfl) rfl e_v4 (ltK rfl) rfl ?_
      refine g_goto (pc := 80) (tgt := 26) (dK D_Searches_bestExchange 45 rfl) rfl ?_
      refine gL_weak (ls' := [(0, .ref c0), (1, V a1), (2, V a2), (3, V a3), (4, V v4)]) (sbc 2 rfl (sbc 3 rfl (sbc 4 rfl (sbc 5 rfl (sbc 0 rfl sbn))))) ?_
      replace h := ih _ h
      exact h ha1 ha2 (Vn_in e_v4)
    · replace h := ifN h hc10
      refine g_aloadn (pc := 53) (i0 := 0) (j := 1) (dK D_Searches_bestExchange 30 rfl) rfl rfl ?_
      refine vg_getO (pc := 54) (ci := 6) (f := 0) (dK D_Searches_bestExchange 31 rfl) q_379 hc0 (ltK rfl) (ltK rfl) rfl ?_
      refine g_iloadn (pc := 57) (i0 := 3) (j := 4) (dK D_Searches_bestExchange 32 rfl) rfl rfl ?_
      refine g_iload (pc := 58) (j := 5) (dK D_Searches_bestExchange 33 rfl) rfl ?_
      refine bnE h (fun p5 e_p5 h => ?_)
      refine vg_cV (pc := 60) (As := [V a3, V a4]) (rest := []) (mc' := 0) (ms' := 0) (dK D_Searches_bestExchange 34 rfl) K_Searches_187 (fitK rfl) (ltK rfl) (hw_6_0 hc0) rfl (leK rfl) (leK rfl) (leK rfl) (tf_Plan_exchangeReason (hw_6_0 hc0) ha3 ha4 e_p5) (kcI (fun h_p5 => ?_))
      refine vg_if_ne (pc := 63) (t := 77) (dK D_Searches_bestExchange 35 rfl) rfl h_p5 (fun hc9 => ?_) (fun hc9 => ?_)
      · replace h := ifN h hc9
        refine nmE h (fun v6 e_v6 h => ?_)
        refine vg_iinc (pc := 77) (j := 5) (a := a4) (z := 1) (ls2 := [(4, V v6), (5, V p3), (0, .ref c0), (1, V a1), (2, V a2), (3, V a3)]) (dK D_Searches_bestExchange 44 rfl) rfl e_v6 (ltK rfl) rfl ?_
        refine g_goto (pc := 80) (tgt := 26) (dK D_Searches_bestExchange 45 rfl) rfl ?_
        refine gL_weak (ls' := [(0, .ref c0), (1, V a1), (2, V a2), (3, V a3), (4, V v6)]) (sbc 2 rfl (sbc 3 rfl (sbc 4 rfl (sbc 5 rfl (sbc 0 rfl sbn))))) ?_
        replace h := ih _ h
        exact h ha1 ha2 (Vn_in e_v6)
      · replace h := ifP h hc9
        refine vg_bipush (pc := 66) (dK D_Searches_bestExchange 36 rfl) rfl ?_
        refine g_iloadn (pc := 68) (i0 := 3) (j := 4) (dK D_Searches_bestExchange 37 rfl) rfl rfl ?_
        refine vg_imul (pc := 69) (dK D_Searches_bestExchange 38 rfl) ?_
        refine g_iload (pc := 70) (j := 5) (dK D_Searches_bestExchange 39 rfl) rfl ?_
        refine vg_iadd (pc := 72) (dK D_Searches_bestExchange 40 rfl) ?_
        refine nmE h (fun v7 e_v7 h => ?_)
        refine gtop e_v7 ?_
        refine g_istoren (pc := 73) (i0 := 1) (ls2 := [(1, V v7), (5, V p3), (0, .ref c0), (2, V a2), (3, V a3), (4, V a4)]) (dK D_Searches_bestExchange 41 rfl) rfl (ltK rfl) rfl ?_
        refine g_iload (pc := 74) (j := 1) (dK D_Searches_bestExchange 42 rfl) rfl ?_
        refine g_istoren (pc := 76) (i0 := 2) (ls2 := [(2, V p3), (1, V v7), (5, V p3), (0, .ref c0), (3, V a3), (4, V a4)]) (dK D_Searches_bestExchange 43 rfl) rfl (ltK rfl) rfl ?_
        refine nmE h (fun v8 e_v8 h => ?_)
        refine vg_iinc (pc := 77) (j := 5) (a := a4) (z := 1) (ls2 := [(4, V v8), (2, V p3), (1, V v7), (5, V p3), (0, .ref c0), (3, V a3)]) (dK D_Searches_bestExchange 44 rfl) rfl e_v8 (ltK rfl) rfl ?_
        refine g_goto (pc := 80) (tgt := 26) (dK D_Searches_bestExchange 45 rfl) rfl ?_
        refine gL_weak (ls' := [(0, .ref c0), (1, V v7), (2, V p3), (3, V a3), (4, V v8)]) (sbc 4 rfl (sbc 2 rfl (sbc 1 rfl (sbc 5 rfl (sbc 0 rfl sbn))))) ?_
        replace h := ih _ h
        exact h (Vn_in e_v7) h_p3 (Vn_in e_v8)
def lb_Searches_bestExchange_10 (c0 : Nat) (S : St) (go : Int × Int × Int → Option (Int)) (a1 : Int) (a2 : Int) (a3 : Int) : Option (Int) := if (g S (tgt c0 0) 1) < a3 then (some a1) else (nm (wr (a3 + 1)) fun v2 => bnO (lo_Searches_bestExchange_26 c0 a3 S FU (a1, a2, v2)) fun p12 => nm (wr (a3 + 1)) fun v13 => go (p12.1, p12.2, v13))
def lo_Searches_bestExchange_10 (c0 : Nat) (S : St) : Nat → Int × Int × Int → Option (Int) := lp fun go p => lb_Searches_bestExchange_10 c0 S go p.1 p.2.1 p.2.2
theorem tl_Searches_bestExchange_10 {E : EV} {X : XT} {c0 : Nat} (hc0 : HC X 6 c0) {S : St} {K : RK → PS → Prop} {q : Int} (hx : inR q → Go E M_Searches_bestExchange 0 0 89 [(1, V q)] [] (WX X S) 0 0 K) : ∀ n a, lo_Searches_bestExchange_10 c0 S n a = some q → inR a.1 → inR a.2.1 → inR a.2.2 → Go E M_Searches_bestExchange 0 0 10 [(0, .ref c0), (1, V a.1), (2, V a.2.1), (3, V a.2.2)] [] (WX X S) 0 0 K := by
  refine lp_ind (P := fun a : Int × Int × Int => inR a.1 → inR a.2.1 → inR a.2.2 → Go E M_Searches_bestExchange 0 0 10 [(0, .ref c0), (1, V a.1), (2, V a.2.1), (3, V a.2.2)] [] (WX X S) 0 0 K) (fun go ih a h => ?_)
  obtain ⟨a1, a2, a3⟩ := a
  intro ha1 ha2 ha3
  show Go E M_Searches_bestExchange 0 0 10 [(0, .ref c0), (1, V a1), (2, V a2), (3, V a3)] [] (WX X S) 0 0 K
  replace h : lb_Searches_bestExchange_10 c0 S go a1 a2 a3 = some q := h
  unfold lb_Searches_bestExchange_10 at h
  refine g_iloadn (pc := 10) (i0 := 3) (j := 3) (dK D_Searches_bestExchange 8 rfl) rfl rfl ?_
  refine g_aloadn (pc := 11) (i0 := 0) (j := 0) (dK D_Searches_bestExchange 9 rfl) rfl rfl ?_
  refine vg_getO (pc := 12) (ci := 6) (f := 0) (dK D_Searches_bestExchange 10 rfl) q_379 hc0 (ltK rfl) (ltK rfl) rfl ?_
  refine vg_getI (pc := 15) (ci := 4) (f := 1) (dK D_Searches_bestExchange 11 rfl) q_306 (hw_6_0 hc0) (ltK rfl) (ltK rfl) rfl ?_
  refine vg_icmp_gt (pc := 18) (t := 89) (dK D_Searches_bestExchange 12 rfl) rfl ha3 (g_in _ _ _) (fun hc14 => ?_) (fun hc14 => ?_)
  · replace h := ifP h hc14
    obtain rfl := Option.some.inj h
    refine gL_weak (ls' := [(1, V a1)]) (sbc 1 rfl sbn) ?_
    exact hx ha1
  · replace h := ifN h hc14
    refine g_iloadn (pc := 21) (i0 := 3) (j := 3) (dK D_Searches_bestExchange 13 rfl) rfl rfl ?_
    refine vg_iconst (pc := 22) (dK D_Searches_bestExchange 14 rfl) ?_
    refine vg_iadd (pc := 23) (dK D_Searches_bestExchange 15 rfl) ?_
    refine nmE h (fun v2 e_v2 h => ?_)
    refine gtop e_v2 ?_
    refine g_istore (pc := 24) (ls2 := [(4, V v2), (0, .ref c0), (1, V a1), (2, V a2), (3, V a3)]) (dK D_Searches_bestExchange 16 rfl) (ltK rfl) rfl ?_
    refine bnE h (fun p12 e_p12 h => ?_)
    refine gL_weak (ls' := [(0, .ref c0), (1, V a1), (2, V a2), (3, V a3), (4, V v2)]) (sbc 1 rfl (sbc 2 rfl (sbc 3 rfl (sbc 4 rfl (sbc 0 rfl sbn))))) ?_
    refine tl_Searches_bestExchange_26 hc0 ha3 (fun hx1_p12 hx2_p12 => ?_) FU (a1, a2, v2) e_p12 ha1 ha2 (Vn_in e_v2)
    refine nmE h (fun v13 e_v13 h => ?_)
    refine vg_iinc (pc := 83) (j := 3) (a := a3) (z := 1) (ls2 := [(3, V v13), (0, .ref c0), (1, V p12.1), (2, V p12.2)]) (dK D_Searches_bestExchange 46 rfl) rfl e_v13 (ltK rfl) rfl ?_
    refine g_goto (pc := 86) (tgt := 10) (dK D_Searches_bestExchange 47 rfl) rfl ?_
    refine gL_weak (ls' := [(0, .ref c0), (1, V p12.1), (2, V p12.2), (3, V v13)]) (sbc 1 rfl (sbc 2 rfl (sbc 3 rfl (sbc 0 rfl sbn)))) ?_
    replace h := ih _ h
    exact h hx1_p12 hx2_p12 (Vn_in e_v13)
def fn_Searches_bestExchange (c0 : Nat) (S : St) : Option (Int × St) := bnO (fn_Searches_countColorPages c0 S) fun p1 => bnO (lo_Searches_bestExchange_10 c0 p1 FU ((-1), 0, 1)) fun p15 => some (p15, p1)
theorem tf_Searches_bestExchange {E : EV} {X : XT} {c0 : Nat} (hc0 : HC X 6 c0) {S : St} {q : Int × St} (h : fn_Searches_bestExchange c0 S = some q) : Ev E M_Searches_bestExchange [.ref c0] (WX X S) 0 0 (KI X q.1 q.2) := by
  refine Ev.of pn_Searches rfl (leK rfl) ?_
  show Go E M_Searches_bestExchange 0 0 0 [(0, .ref c0)] [] (WX X S) 0 0 (KI X q.1 q.2)
  unfold fn_Searches_bestExchange at h
  refine g_aloadn (pc := 0) (i0 := 0) (j := 0) (dK D_Searches_bestExchange 0 rfl) rfl rfl ?_
  refine bnE h (fun p1 e_p1 h => ?_)
  refine vg_cV (pc := 1) (As := []) (rest := []) (mc' := 0) (ms' := 0) (dK D_Searches_bestExchange 1 rfl) K_Searches_181 (fitK rfl) (ltK rfl) hc0 rfl (leK rfl) (leK rfl) (leK rfl) (tf_Searches_countColorPages hc0 e_p1) (kcU ?_)
  refine vg_iconst (pc := 4) (dK D_Searches_bestExchange 2 rfl) ?_
  refine g_istoren (pc := 5) (i0 := 1) (ls2 := [(1, V (-1)), (0, .ref c0)]) (dK D_Searches_bestExchange 3 rfl) rfl (ltK rfl) rfl ?_
  refine vg_iconst (pc := 6) (dK D_Searches_bestExchange 4 rfl) ?_
  refine g_istoren (pc := 7) (i0 := 2) (ls2 := [(2, V 0), (1, V (-1)), (0, .ref c0)]) (dK D_Searches_bestExchange 5 rfl) rfl (ltK rfl) rfl ?_
  refine vg_iconst (pc := 8) (dK D_Searches_bestExchange 6 rfl) ?_
  refine g_istoren (pc := 9) (i0 := 3) (ls2 := [(3, V 1), (2, V 0), (1, V (-1)), (0, .ref c0)]) (dK D_Searches_bestExchange 7 rfl) rfl (ltK rfl) rfl ?_
  refine bnE h (fun p15 e_p15 h => ?_)
  refine gL_weak (ls' := [(0, .ref c0), (1, V (-1)), (2, V 0), (3, V 1)]) (sbc 3 rfl (sbc 2 rfl (sbc 1 rfl (sbc 0 rfl sbn)))) ?_
  refine tl_Searches_bestExchange_10 hc0 (fun hx1_p15 => ?_) FU ((-1), 0, 1) e_p15 (inRk rfl) (inRk rfl) (inRk rfl)
  refine g_iloadn (pc := 89) (i0 := 1) (j := 0) (dK D_Searches_bestExchange 48 rfl) rfl rfl ?_
  exact vg_iretI (pc := 90) (r := p15) (dK D_Searches_bestExchange 49 rfl) rfl (leK rfl) (leK rfl) (fun _ => rfl) (by obtain rfl := Option.some.inj h; exact ⟨rfl, hx1_p15, rfl⟩)
def fn_FP_betterExchange (c0 : Nat) (S : St) : Option (Int × St) := bnO (fn_Searches_bestExchange (tgt c0 2) S) fun p1 => some (p1.1, p1.2)
theorem tf_FP_betterExchange {E : EV} {X : XT} {c0 : Nat} (hc0 : HC X 10 c0) {S : St} {q : Int × St} (h : fn_FP_betterExchange c0 S = some q) : Ev E M_FP_betterExchange [.ref c0] (WX X S) 0 0 (KI X q.1 q.2) := by
  refine Ev.of pn_FP rfl (leK rfl) ?_
  show Go E M_FP_betterExchange 0 0 0 [(0, .ref c0)] [] (WX X S) 0 0 (KI X q.1 q.2)
  unfold fn_FP_betterExchange at h
  refine g_aloadn (pc := 0) (i0 := 0) (j := 0) (dK D_FP_betterExchange 0 rfl) rfl rfl ?_
  refine vg_getO (pc := 1) (ci := 10) (f := 2) (dK D_FP_betterExchange 1 rfl) q_435 hc0 (ltK rfl) (ltK rfl) rfl ?_
  refine bnE h (fun p1 e_p1 h => ?_)
  refine vg_cV (pc := 4) (As := []) (rest := []) (mc' := 0) (ms' := 0) (dK D_FP_betterExchange 2 rfl) K_FP_309 (fitK rfl) (ltK rfl) (hw_10_2 hc0) rfl (leK rfl) (leK rfl) (leK rfl) (tf_Searches_bestExchange (hw_10_2 hc0) e_p1) (kcI (fun h_p1 => ?_))
  exact vg_iretI (pc := 7) (r := p1.1) (dK D_FP_betterExchange 3 rfl) rfl (leK rfl) (leK rfl) (fun _ => rfl) (by obtain rfl := Option.some.inj h; exact ⟨rfl, h_p1, rfl⟩)
def fn_History_keep (c0 : Nat) (c1 : Nat) (S : St) : Option (St) := if 0 ≤ (g S c0 1) ∧ (g S c0 1) < 20 then (bnO (fn_State_copyFrom (tgt (tgt c0 0) (((g S c0 1)).toNat)) c1 S) fun p2 => nm (wr ((g p2 c0 1) + 1)) fun v3 => if 20 ≤ v3 then (nm (u p2 c0 1 0) fun S4 => nm (wr ((g S4 c0 2) + 1)) fun v5 => nm (u S4 c0 2 (i_min v5 20)) fun S6 => some S6) else (nm (u p2 c0 1 ((g p2 c0 1) + 1)) fun S7 => nm (wr ((g S7 c0 2) + 1)) fun v8 => nm (u S7 c0 2 (i_min v8 20)) fun S9 => some S9)) else none
theorem tf_History_keep {E : EV} {X : XT} {c0 : Nat} (hc0 : HC X 3 c0) {c1 : Nat} (hc1 : HC X 8 c1) {S : St} {q : St} (h : fn_History_keep c0 c1 S = some q) : Ev E M_History_keep [.ref c0, .ref c1] (WX X S) 0 0 (KU X q) := by
  refine Ev.of pn_History rfl (leK rfl) ?_
  show Go E M_History_keep 0 0 0 [(0, .ref c0), (1, .ref c1)] [] (WX X S) 0 0 (KU X q)
  unfold fn_History_keep at h
  refine g_aloadn (pc := 0) (i0 := 0) (j := 0) (dK D_History_keep 0 rfl) rfl rfl ?_
  refine vg_getA (pc := 1) (ci := 3) (f := 0) (dK D_History_keep 1 rfl) q_420 hc0 (ltK rfl) (ltK rfl) rfl ?_
  refine g_aloadn (pc := 4) (i0 := 0) (j := 0) (dK D_History_keep 2 rfl) rfl rfl ?_
  refine vg_getI (pc := 5) (ci := 3) (f := 1) (dK D_History_keep 3 rfl) q_421 hc0 (ltK rfl) (ltK rfl) rfl ?_
  refine gdE h (fun hi1 h => ?_)
  refine vg_aaload (pc := 8) (j := ((g S c0 1)).toNat) (dK D_History_keep 4 rfl) (hw_3_0 hc0) rfl hi1 rfl ?_
  refine g_aloadn (pc := 9) (i0 := 1) (j := 1) (dK D_History_keep 5 rfl) rfl rfl ?_
  refine bnE h (fun p2 e_p2 h => ?_)
  refine vg_cV (pc := 10) (As := [.ref c1]) (rest := []) (mc' := 0) (ms' := 0) (dK D_History_keep 6 rfl) K_History_22 (fitK rfl) (ltK rfl) (hw_kept (hw_3_0 hc0) (ix_lt hi1)) rfl (leK rfl) (leK rfl) (leK rfl) (tf_State_copyFrom (hw_kept (hw_3_0 hc0) (ix_lt hi1)) hc1 e_p2) (kcU ?_)
  refine g_aloadn (pc := 13) (i0 := 0) (j := 0) (dK D_History_keep 7 rfl) rfl rfl ?_
  refine g_aloadn (pc := 14) (i0 := 0) (j := 0) (dK D_History_keep 8 rfl) rfl rfl ?_
  refine vg_getI (pc := 15) (ci := 3) (f := 1) (dK D_History_keep 9 rfl) q_421 hc0 (ltK rfl) (ltK rfl) rfl ?_
  refine vg_iconst (pc := 18) (dK D_History_keep 10 rfl) ?_
  refine vg_iadd (pc := 19) (dK D_History_keep 11 rfl) ?_
  refine vg_bipush (pc := 20) (dK D_History_keep 12 rfl) rfl ?_
  refine nmE h (fun v3 e_v3 h => ?_)
  refine gsk (st' := [V 20, V v3, .ref c0]) (by rw [Vn e_v3]) ?_
  refine vg_icmp_ge (pc := 22) (t := 34) (dK D_History_keep 13 rfl) rfl (Vn_in e_v3) (inRk rfl) (fun hc10 => ?_) (fun hc10 => ?_)
  · replace h := ifP h hc10
    refine vg_iconst (pc := 34) (dK D_History_keep 19 rfl) ?_
    refine nmE h (fun S4 e_S4 h => ?_)
    refine vg_putI (pc := 35) (ci := 3) (f := 1) (z := 0) (dK D_History_keep 20 rfl) q_421 hc0 (ltK rfl) (ltK rfl) rfl rfl e_S4 ?_
    refine g_aloadn (pc := 38) (i0 := 0) (j := 0) (dK D_History_keep 21 rfl) rfl rfl ?_
    refine g_aloadn (pc := 39) (i0 := 0) (j := 0) (dK D_History_keep 22 rfl) rfl rfl ?_
    refine vg_getI (pc := 40) (ci := 3) (f := 2) (dK D_History_keep 23 rfl) q_422 hc0 (ltK rfl) (ltK rfl) rfl ?_
    refine vg_iconst (pc := 43) (dK D_History_keep 24 rfl) ?_
    refine vg_iadd (pc := 44) (dK D_History_keep 25 rfl) ?_
    refine vg_bipush (pc := 45) (dK D_History_keep 26 rfl) rfl ?_
    refine nmE h (fun v5 e_v5 h => ?_)
    refine gsk (st' := [V 20, V v5, .ref c0]) (by rw [Vn e_v5]) ?_
    refine vg_mmin (pc := 47) (dK D_History_keep 27 rfl) q_1912 (leK rfl) (leK rfl) (leK rfl) (leK rfl) (Vn_in e_v5) (inRk rfl) ?_
    refine nmE h (fun S6 e_S6 h => ?_)
    refine vg_putI (pc := 50) (ci := 3) (f := 2) (z := (i_min v5 20)) (dK D_History_keep 28 rfl) q_422 hc0 (ltK rfl) (ltK rfl) rfl rfl e_S6 ?_
    exact g_return (pc := 53) (dK D_History_keep 29 rfl) rfl (leK rfl) (leK rfl) (fun _ => rfl) (by obtain rfl := Option.some.inj h; exact ⟨rfl, rfl⟩)
  · replace h := ifN h hc10
    refine g_aloadn (pc := 25) (i0 := 0) (j := 0) (dK D_History_keep 14 rfl) rfl rfl ?_
    refine vg_getI (pc := 26) (ci := 3) (f := 1) (dK D_History_keep 15 rfl) q_421 hc0 (ltK rfl) (ltK rfl) rfl ?_
    refine vg_iconst (pc := 29) (dK D_History_keep 16 rfl) ?_
    refine vg_iadd (pc := 30) (dK D_History_keep 17 rfl) ?_
    refine g_goto (pc := 31) (tgt := 35) (dK D_History_keep 18 rfl) rfl ?_
    refine nmE h (fun S7 e_S7 h => ?_)
    refine vg_putI (pc := 35) (ci := 3) (f := 1) (z := ((g p2 c0 1) + 1)) (dK D_History_keep 20 rfl) q_421 hc0 (ltK rfl) (ltK rfl) rfl rfl e_S7 ?_
    refine g_aloadn (pc := 38) (i0 := 0) (j := 0) (dK D_History_keep 21 rfl) rfl rfl ?_
    refine g_aloadn (pc := 39) (i0 := 0) (j := 0) (dK D_History_keep 22 rfl) rfl rfl ?_
    refine vg_getI (pc := 40) (ci := 3) (f := 2) (dK D_History_keep 23 rfl) q_422 hc0 (ltK rfl) (ltK rfl) rfl ?_
    refine vg_iconst (pc := 43) (dK D_History_keep 24 rfl) ?_
    refine vg_iadd (pc := 44) (dK D_History_keep 25 rfl) ?_
    refine vg_bipush (pc := 45) (dK D_History_keep 26 rfl) rfl ?_
    refine nmE h (fun v8 e_v8 h => ?_)
    refine gsk (st' := [V 20, V v8, .ref c0]) (by rw [Vn e_v8]) ?_
    refine vg_mmin (pc := 47) (dK D_History_keep 27 rfl) q_1912 (leK rfl) (leK rfl) (leK rfl) (leK rfl) (Vn_in e_v8) (inRk rfl) ?_
    refine nmE h (fun S9 e_S9 h => ?_)
    refine vg_putI (pc := 50) (ci := 3) (f := 2) (z := (i_min v8 20)) (dK D_History_keep 28 rfl) q_422 hc0 (ltK rfl) (ltK rfl) rfl rfl e_S9 ?_
    exact g_return (pc := 53) (dK D_History_keep 29 rfl) rfl (leK rfl) (leK rfl) (fun _ => rfl) (by obtain rfl := Option.some.inj h; exact ⟨rfl, rfl⟩)
def jf_FP_put_47 (c0 : Nat) (a1 : Int) (a2 : Int) (a3 : Int) (S : St) : Option (Nat × Int × St) := if a3 = 0 then (bnO (fn_History_keep (tgt c0 4) (tgt (tgt c0 3) 0) S) fun p3 => if 0 ≤ a1 ∧ a1 < 40 then (nm (u p3 (tgt (tgt (tgt (tgt c0 3) 0) 0) 6) a1.toNat a2) fun S5 => bnO (fn_Plan_recount (tgt c0 3) S5) fun p6 => some (0, a3, p6)) else none) else (some (0, a3, S))
theorem tj_FP_put_47 {E : EV} {X : XT} (hfl : X.2.2.2 = false) {c0 : Nat} (hc0 : HC X 10 c0) {a1 : Int} (ha1 : inR a1) {a2 : Int} (ha2 : inR a2) {a3 : Int} (ha3 : inR a3) {S : St} {q : Nat × Int × St} (h : jf_FP_put_47 c0 a1 a2 a3 S = some q) : Go E M_FP_put 1 6 47 [(0, .ref c0), (1, V a1), (2, V a2), (3, V a3)] [] (WX X S) 1 6 (KT X q.1 q.2.2 (KI X q.2.1 q.2.2)) := by
  unfold jf_FP_put_47 at h
  refine g_iloadn (pc := 47) (i0 := 3) (j := 3) (dK D_FP_put 25 rfl) rfl rfl ?_
  refine vg_if_ne (pc := 48) (t := 88) (dK D_FP_put 26 rfl) rfl ha3 (fun hc7 => ?_) (fun hc7 => ?_)
  · replace h := ifN h hc7
    refine g_iloadn (pc := 88) (i0 := 3) (j := 3) (dK D_FP_put 44 rfl) rfl rfl ?_
    exact vg_iretI (pc := 89) (r := a3) (dK D_FP_put 45 rfl) rfl (leK rfl) (leK rfl) (xf hfl) (by obtain rfl := Option.some.inj h; exact KT_ok ⟨rfl, ha3, rfl⟩)
  · replace h := ifP h hc7
    refine g_aloadn (pc := 51) (i0 := 0) (j := 0) (dK D_FP_put 27 rfl) rfl rfl ?_
    refine vg_getO (pc := 52) (ci := 10) (f := 4) (dK D_FP_put 28 rfl) q_437 hc0 (ltK rfl) (ltK rfl) rfl ?_
    refine g_aloadn (pc := 55) (i0 := 0) (j := 0) (dK D_FP_put 29 rfl) rfl rfl ?_
    refine vg_getO (pc := 56) (ci := 10) (f := 3) (dK D_FP_put 30 rfl) q_436 hc0 (ltK rfl) (ltK rfl) rfl ?_
    refine vg_getO (pc := 59) (ci := 4) (f := 0) (dK D_FP_put 31 rfl) q_303 (hw_10_3 hc0) (ltK rfl) (ltK rfl) rfl ?_
    refine bnE h (fun p3 e_p3 h => ?_)
    refine vg_cV (pc := 62) (As := [.ref (tgt (tgt c0 3) 0)]) (rest := []) (mc' := 0) (ms' := 0) (dK D_FP_put 32 rfl) K_FP_155 (fitK rfl) (ltK rfl) (hw_10_4 hc0) rfl (leK rfl) (leK rfl) (leK rfl) (tf_History_keep (hw_10_4 hc0) (hw_4_0 (hw_10_3 hc0)) e_p3) (kcU ?_)
    refine g_aloadn (pc := 65) (i0 := 0) (j := 0) (dK D_FP_put 33 rfl) rfl rfl ?_
    refine vg_getO (pc := 66) (ci := 10) (f := 3) (dK D_FP_put 34 rfl) q_436 hc0 (ltK rfl) (ltK rfl) rfl ?_
    refine vg_getO (pc := 69) (ci := 4) (f := 0) (dK D_FP_put 35 rfl) q_303 (hw_10_3 hc0) (ltK rfl) (ltK rfl) rfl ?_
    refine vg_getO (pc := 72) (ci := 8) (f := 0) (dK D_FP_put 36 rfl) q_235 (hw_4_0 (hw_10_3 hc0)) (ltK rfl) (ltK rfl) rfl ?_
    refine vg_getA (pc := 75) (ci := 0) (f := 6) (dK D_FP_put 37 rfl) q_114 (hw_8_0 (hw_4_0 (hw_10_3 hc0))) (ltK rfl) (ltK rfl) rfl ?_
    refine g_iloadn (pc := 78) (i0 := 1) (j := 1) (dK D_FP_put 38 rfl) rfl rfl ?_
    refine g_iloadn (pc := 79) (i0 := 2) (j := 2) (dK D_FP_put 39 rfl) rfl rfl ?_
    refine gdE h (fun hi4 h => ?_)
    refine nmE h (fun S5 e_S5 h => ?_)
    refine vg_iastore (pc := 80) (z := a2) (dK D_FP_put 40 rfl) (hw_0_6 (hw_8_0 (hw_4_0 (hw_10_3 hc0)))) rfl hi4 rfl e_S5 ?_
    refine g_aloadn (pc := 81) (i0 := 0) (j := 0) (dK D_FP_put 41 rfl) rfl rfl ?_
    refine vg_getO (pc := 82) (ci := 10) (f := 3) (dK D_FP_put 42 rfl) q_436 hc0 (ltK rfl) (ltK rfl) rfl ?_
    refine bnE h (fun p6 e_p6 h => ?_)
    refine vg_cV (pc := 85) (As := []) (rest := []) (mc' := 0) (ms' := 0) (dK D_FP_put 43 rfl) K_FP_254 (fitK rfl) (ltK rfl) (hw_10_3 hc0) rfl (leK rfl) (leK rfl) (leK rfl) (tf_Plan_recount (hw_10_3 hc0) e_p6) (kcU ?_)
    refine g_iloadn (pc := 88) (i0 := 3) (j := 3) (dK D_FP_put 44 rfl) rfl rfl ?_
    exact vg_iretI (pc := 89) (r := a3) (dK D_FP_put 45 rfl) rfl (leK rfl) (leK rfl) (xf hfl) (by obtain rfl := Option.some.inj h; exact KT_ok ⟨rfl, ha3, rfl⟩)
def fn_FP_put (c0 : Nat) (a1 : Int) (a2 : Int) (S : St) : Option (Nat × Int × St) := bnO (fn_FP_needAd c0 a1 S) fun p1 => if p1 = 0 then (bnO (fn_Plan_adReason (tgt c0 3) a1 a2 S) fun p2 => if p2 = 1 then (jf_FP_put_47 c0 a1 a2 p2 S) else (if 0 ≤ a1 ∧ a1 < 40 then (bnO (fn_Plan_isPrinted (tgt c0 3) (g S (tgt (tgt (tgt (tgt c0 3) 0) 0) 6) a1.toNat) S) fun p9 => if p9 = true then (jf_FP_put_47 c0 a1 a2 2 S) else (jf_FP_put_47 c0 a1 a2 p2 S)) else none)) else (some (p1, 0, S))
theorem tf_FP_put {E : EV} {X : XT} (hfl : X.2.2.2 = false) {c0 : Nat} (hc0 : HC X 10 c0) {a1 : Int} (ha1 : inR a1) {a2 : Int} (ha2 : inR a2) {S : St} {q : Nat × Int × St} (h : fn_FP_put c0 a1 a2 S = some q) : Ev E M_FP_put [.ref c0, V a1, V a2] (WX X S) 1 6 (KT X q.1 q.2.2 (KI X q.2.1 q.2.2)) := by
  refine Ev.of pn_FP rfl (leK rfl) ?_
  show Go E M_FP_put 1 6 0 [(0, .ref c0), (1, V a1), (2, V a2)] [] (WX X S) 0 0 (KT X q.1 q.2.2 (KI X q.2.1 q.2.2))
  unfold fn_FP_put at h
  refine g_aloadn (pc := 0) (i0 := 0) (j := 0) (dK D_FP_put 0 rfl) rfl rfl ?_
  refine g_iloadn (pc := 1) (i0 := 1) (j := 1) (dK D_FP_put 1 rfl) rfl rfl ?_
  refine bnE h (fun p1 e_p1 h => ?_)
  refine vg_cV (pc := 2) (As := [V a1]) (rest := []) (mc' := 1) (ms' := 6) (dK D_FP_put 2 rfl) K_FP_162 (fitK rfl) (ltK rfl) hc0 rfl (leK rfl) (leK rfl) (leK rfl) (tf_FP_needAd hfl hc0 ha1 e_p1) (kcT hfl (fun he12 => kcU ?_) (fun he12 => ⟨rfl, ?_⟩))
  · replace h := ifP h he12
    refine g_aloadn (pc := 5) (i0 := 0) (j := 0) (dK D_FP_put 3 rfl) rfl rfl ?_
    refine vg_getO (pc := 6) (ci := 10) (f := 3) (dK D_FP_put 4 rfl) q_436 hc0 (ltK rfl) (ltK rfl) rfl ?_
    refine g_iloadn (pc := 9) (i0 := 1) (j := 1) (dK D_FP_put 5 rfl) rfl rfl ?_
    refine g_iloadn (pc := 10) (i0 := 2) (j := 2) (dK D_FP_put 6 rfl) rfl rfl ?_
    refine bnE h (fun p2 e_p2 h => ?_)
    refine vg_cV (pc := 11) (As := [V a1, V a2]) (rest := []) (mc' := 0) (ms' := 0) (dK D_FP_put 7 rfl) K_FP_244 (fitK rfl) (ltK rfl) (hw_10_3 hc0) rfl (leK rfl) (leK rfl) (leK rfl) (tf_Plan_adReason (hw_10_3 hc0) ha1 ha2 e_p2) (kcI (fun h_p2 => ?_))
    refine g_istoren (pc := 14) (i0 := 3) (ls2 := [(3, V p2), (0, .ref c0), (1, V a1), (2, V a2)]) (dK D_FP_put 8 rfl) rfl (ltK rfl) rfl ?_
    refine g_iloadn (pc := 15) (i0 := 3) (j := 0) (dK D_FP_put 9 rfl) rfl rfl ?_
    refine vg_iconst (pc := 16) (dK D_FP_put 10 rfl) ?_
    refine vg_icmp_eq (pc := 17) (t := 47) (dK D_FP_put 11 rfl) rfl h_p2 (inRk rfl) (fun hc11 => ?_) (fun hc11 => ?_)
    · replace h := ifP h hc11
      refine gL_weak (ls' := [(0, .ref c0), (1, V a1), (2, V a2), (3, V p2)]) (sbc 1 rfl (sbc 2 rfl (sbc 3 rfl (sbc 0 rfl sbn)))) ?_
      exact tj_FP_put_47 hfl hc0 ha1 ha2 h_p2 h
    · replace h := ifN h hc11
      refine g_aloadn (pc := 20) (i0 := 0) (j := 1) (dK D_FP_put 12 rfl) rfl rfl ?_
      refine vg_getO (pc := 21) (ci := 10) (f := 3) (dK D_FP_put 13 rfl) q_436 hc0 (ltK rfl) (ltK rfl) rfl ?_
      refine g_aloadn (pc := 24) (i0 := 0) (j := 1) (dK D_FP_put 14 rfl) rfl rfl ?_
      refine vg_getO (pc := 25) (ci := 10) (f := 3) (dK D_FP_put 15 rfl) q_436 hc0 (ltK rfl) (ltK rfl) rfl ?_
      refine vg_getO (pc := 28) (ci := 4) (f := 0) (dK D_FP_put 16 rfl) q_303 (hw_10_3 hc0) (ltK rfl) (ltK rfl) rfl ?_
      refine vg_getO (pc := 31) (ci := 8) (f := 0) (dK D_FP_put 17 rfl) q_235 (hw_4_0 (hw_10_3 hc0)) (ltK rfl) (ltK rfl) rfl ?_
      refine vg_getA (pc := 34) (ci := 0) (f := 6) (dK D_FP_put 18 rfl) q_114 (hw_8_0 (hw_4_0 (hw_10_3 hc0))) (ltK rfl) (ltK rfl) rfl ?_
      refine g_iloadn (pc := 37) (i0 := 1) (j := 2) (dK D_FP_put 19 rfl) rfl rfl ?_
      refine gdE h (fun hi8 h => ?_)
      refine vg_iaload (pc := 38) (j := a1.toNat) (dK D_FP_put 20 rfl) (hw_0_6 (hw_8_0 (hw_4_0 (hw_10_3 hc0)))) rfl hi8 rfl ?_
      refine bnE h (fun p9 e_p9 h => ?_)
      refine vg_cV (pc := 39) (As := [V (g S (tgt (tgt (tgt (tgt c0 3) 0) 0) 6) a1.toNat)]) (rest := []) (mc' := 0) (ms' := 0) (dK D_FP_put 21 rfl) K_FP_251 (fitK rfl) (ltK rfl) (hw_10_3 hc0) rfl (leK rfl) (leK rfl) (leK rfl) (tf_Plan_isPrinted (hw_10_3 hc0) (g_in _ _ _) e_p9) (kcB ?_)
      refine vg_ifB_eq (pc := 42) (b := p9) (t := 47) (dK D_FP_put 22 rfl) rfl (fun hc10 => ?_) (fun hc10 => ?_)
      · replace h := ifP h hc10
        refine vg_iconst (pc := 45) (dK D_FP_put 23 rfl) ?_
        refine g_istoren (pc := 46) (i0 := 3) (ls2 := [(3, V 2), (0, .ref c0), (1, V a1), (2, V a2)]) (dK D_FP_put 24 rfl) rfl (ltK rfl) rfl ?_
        refine gL_weak (ls' := [(0, .ref c0), (1, V a1), (2, V a2), (3, V 2)]) (sbc 1 rfl (sbc 2 rfl (sbc 3 rfl (sbc 0 rfl sbn)))) ?_
        exact tj_FP_put_47 hfl hc0 ha1 ha2 (inRk rfl) h
      · replace h := ifN h hc10
        refine gL_weak (ls' := [(0, .ref c0), (1, V a1), (2, V a2), (3, V p2)]) (sbc 1 rfl (sbc 2 rfl (sbc 3 rfl (sbc 0 rfl sbn)))) ?_
        exact tj_FP_put_47 hfl hc0 ha1 ha2 h_p2 h
  · replace h := ifN h he12
    obtain rfl := Option.some.inj h
    exact KT_thr he12
def fn_Plan_storyIsPrinted (c0 : Nat) (a1 : Int) (S : St) : Option (Bool) := bnO (fn_Plan_storyIsOnFormThat c0 a1 1 S) fun p1 => some p1
theorem tf_Plan_storyIsPrinted {E : EV} {X : XT} {c0 : Nat} (hc0 : HC X 4 c0) {a1 : Int} (ha1 : inR a1) {S : St} {q : Bool} (h : fn_Plan_storyIsPrinted c0 a1 S = some q) : Ev E M_Plan_storyIsPrinted [.ref c0, V a1] (WX X S) 0 0 (KB X q S) := by
  refine Ev.of pn_Plan rfl (leK rfl) ?_
  show Go E M_Plan_storyIsPrinted 0 0 0 [(0, .ref c0), (1, V a1)] [] (WX X S) 0 0 (KB X q S)
  unfold fn_Plan_storyIsPrinted at h
  refine g_aloadn (pc := 0) (i0 := 0) (j := 0) (dK D_Plan_storyIsPrinted 0 rfl) rfl rfl ?_
  refine g_iloadn (pc := 1) (i0 := 1) (j := 1) (dK D_Plan_storyIsPrinted 1 rfl) rfl rfl ?_
  refine vg_iconst (pc := 2) (dK D_Plan_storyIsPrinted 2 rfl) ?_
  refine bnE h (fun p1 e_p1 h => ?_)
  refine vg_cV (pc := 3) (As := [V a1, V 1]) (rest := []) (mc' := 0) (ms' := 0) (dK D_Plan_storyIsPrinted 3 rfl) K_Plan_177 (fitK rfl) (ltK rfl) hc0 rfl (leK rfl) (leK rfl) (leK rfl) (tf_Plan_storyIsOnFormThat hc0 ha1 (inRk rfl) e_p1) (kcB ?_)
  exact vg_iretB (pc := 6) (b := p1) (dK D_Plan_storyIsPrinted 4 rfl) rfl (leK rfl) (leK rfl) (fun _ => rfl) (by obtain rfl := Option.some.inj h; exact ⟨rfl, rfl⟩)
def jf_FP_lay_33 (c0 : Nat) (a1 : Int) (a2 : Int) (a3 : Int) (S : St) : Option (Nat × Int × St) := if a3 = 0 then (bnO (fn_History_keep (tgt c0 4) (tgt (tgt c0 3) 0) S) fun p3 => if 0 ≤ a1 ∧ a1 < 10 then (nm (u p3 (tgt (tgt (tgt (tgt c0 3) 0) 1) 4) a1.toNat a2) fun S5 => bnO (fn_Plan_recount (tgt c0 3) S5) fun p6 => some (0, a3, p6)) else none) else (some (0, a3, S))
theorem tj_FP_lay_33 {E : EV} {X : XT} (hfl : X.2.2.2 = false) {c0 : Nat} (hc0 : HC X 10 c0) {a1 : Int} (ha1 : inR a1) {a2 : Int} (ha2 : inR a2) {a3 : Int} (ha3 : inR a3) {S : St} {q : Nat × Int × St} (h : jf_FP_lay_33 c0 a1 a2 a3 S = some q) : Go E M_FP_lay 1 6 33 [(0, .ref c0), (1, V a1), (2, V a2), (3, V a3)] [] (WX X S) 1 6 (KT X q.1 q.2.2 (KI X q.2.1 q.2.2)) := by
  unfold jf_FP_lay_33 at h
  refine g_iloadn (pc := 33) (i0 := 3) (j := 3) (dK D_FP_lay 19 rfl) rfl rfl ?_
  refine vg_if_ne (pc := 34) (t := 74) (dK D_FP_lay 20 rfl) rfl ha3 (fun hc7 => ?_) (fun hc7 => ?_)
  · replace h := ifN h hc7
    refine g_iloadn (pc := 74) (i0 := 3) (j := 3) (dK D_FP_lay 38 rfl) rfl rfl ?_
    exact vg_iretI (pc := 75) (r := a3) (dK D_FP_lay 39 rfl) rfl (leK rfl) (leK rfl) (xf hfl) (by obtain rfl := Option.some.inj h; exact KT_ok ⟨rfl, ha3, rfl⟩)
  · replace h := ifP h hc7
    refine g_aloadn (pc := 37) (i0 := 0) (j := 0) (dK D_FP_lay 21 rfl) rfl rfl ?_
    refine vg_getO (pc := 38) (ci := 10) (f := 4) (dK D_FP_lay 22 rfl) q_437 hc0 (ltK rfl) (ltK rfl) rfl ?_
    refine g_aloadn (pc := 41) (i0 := 0) (j := 0) (dK D_FP_lay 23 rfl) rfl rfl ?_
    refine vg_getO (pc := 42) (ci := 10) (f := 3) (dK D_FP_lay 24 rfl) q_436 hc0 (ltK rfl) (ltK rfl) rfl ?_
    refine vg_getO (pc := 45) (ci := 4) (f := 0) (dK D_FP_lay 25 rfl) q_303 (hw_10_3 hc0) (ltK rfl) (ltK rfl) rfl ?_
    refine bnE h (fun p3 e_p3 h => ?_)
    refine vg_cV (pc := 48) (As := [.ref (tgt (tgt c0 3) 0)]) (rest := []) (mc' := 0) (ms' := 0) (dK D_FP_lay 26 rfl) K_FP_155 (fitK rfl) (ltK rfl) (hw_10_4 hc0) rfl (leK rfl) (leK rfl) (leK rfl) (tf_History_keep (hw_10_4 hc0) (hw_4_0 (hw_10_3 hc0)) e_p3) (kcU ?_)
    refine g_aloadn (pc := 51) (i0 := 0) (j := 0) (dK D_FP_lay 27 rfl) rfl rfl ?_
    refine vg_getO (pc := 52) (ci := 10) (f := 3) (dK D_FP_lay 28 rfl) q_436 hc0 (ltK rfl) (ltK rfl) rfl ?_
    refine vg_getO (pc := 55) (ci := 4) (f := 0) (dK D_FP_lay 29 rfl) q_303 (hw_10_3 hc0) (ltK rfl) (ltK rfl) rfl ?_
    refine vg_getO (pc := 58) (ci := 8) (f := 1) (dK D_FP_lay 30 rfl) q_240 (hw_4_0 (hw_10_3 hc0)) (ltK rfl) (ltK rfl) rfl ?_
    refine vg_getA (pc := 61) (ci := 9) (f := 4) (dK D_FP_lay 31 rfl) q_162 (hw_8_1 (hw_4_0 (hw_10_3 hc0))) (ltK rfl) (ltK rfl) rfl ?_
    refine g_iloadn (pc := 64) (i0 := 1) (j := 1) (dK D_FP_lay 32 rfl) rfl rfl ?_
    refine g_iloadn (pc := 65) (i0 := 2) (j := 2) (dK D_FP_lay 33 rfl) rfl rfl ?_
    refine gdE h (fun hi4 h => ?_)
    refine nmE h (fun S5 e_S5 h => ?_)
    refine vg_iastore (pc := 66) (z := a2) (dK D_FP_lay 34 rfl) (hw_9_4 (hw_8_1 (hw_4_0 (hw_10_3 hc0)))) rfl hi4 rfl e_S5 ?_
    refine g_aloadn (pc := 67) (i0 := 0) (j := 0) (dK D_FP_lay 35 rfl) rfl rfl ?_
    refine vg_getO (pc := 68) (ci := 10) (f := 3) (dK D_FP_lay 36 rfl) q_436 hc0 (ltK rfl) (ltK rfl) rfl ?_
    refine bnE h (fun p6 e_p6 h => ?_)
    refine vg_cV (pc := 71) (As := []) (rest := []) (mc' := 0) (ms' := 0) (dK D_FP_lay 37 rfl) K_FP_254 (fitK rfl) (ltK rfl) (hw_10_3 hc0) rfl (leK rfl) (leK rfl) (leK rfl) (tf_Plan_recount (hw_10_3 hc0) e_p6) (kcU ?_)
    refine g_iloadn (pc := 74) (i0 := 3) (j := 3) (dK D_FP_lay 38 rfl) rfl rfl ?_
    exact vg_iretI (pc := 75) (r := a3) (dK D_FP_lay 39 rfl) rfl (leK rfl) (leK rfl) (xf hfl) (by obtain rfl := Option.some.inj h; exact KT_ok ⟨rfl, ha3, rfl⟩)
def fn_FP_lay (c0 : Nat) (a1 : Int) (a2 : Int) (S : St) : Option (Nat × Int × St) := bnO (fn_FP_needStory c0 a1 S) fun p1 => if p1 = 0 then (bnO (fn_Plan_layReason (tgt c0 3) a1 a2 S) fun p2 => if p2 = 1 then (jf_FP_lay_33 c0 a1 a2 p2 S) else (bnO (fn_Plan_storyIsPrinted (tgt c0 3) a1 S) fun p8 => if p8 = true then (jf_FP_lay_33 c0 a1 a2 2 S) else (jf_FP_lay_33 c0 a1 a2 p2 S))) else (some (p1, 0, S))
theorem tf_FP_lay {E : EV} {X : XT} (hfl : X.2.2.2 = false) {c0 : Nat} (hc0 : HC X 10 c0) {a1 : Int} (ha1 : inR a1) {a2 : Int} (ha2 : inR a2) {S : St} {q : Nat × Int × St} (h : fn_FP_lay c0 a1 a2 S = some q) : Ev E M_FP_lay [.ref c0, V a1, V a2] (WX X S) 1 6 (KT X q.1 q.2.2 (KI X q.2.1 q.2.2)) := by
  refine Ev.of pn_FP rfl (leK rfl) ?_
  show Go E M_FP_lay 1 6 0 [(0, .ref c0), (1, V a1), (2, V a2)] [] (WX X S) 0 0 (KT X q.1 q.2.2 (KI X q.2.1 q.2.2))
  unfold fn_FP_lay at h
  refine g_aloadn (pc := 0) (i0 := 0) (j := 0) (dK D_FP_lay 0 rfl) rfl rfl ?_
  refine g_iloadn (pc := 1) (i0 := 1) (j := 1) (dK D_FP_lay 1 rfl) rfl rfl ?_
  refine bnE h (fun p1 e_p1 h => ?_)
  refine vg_cV (pc := 2) (As := [V a1]) (rest := []) (mc' := 1) (ms' := 6) (dK D_FP_lay 2 rfl) K_FP_192 (fitK rfl) (ltK rfl) hc0 rfl (leK rfl) (leK rfl) (leK rfl) (tf_FP_needStory hfl hc0 ha1 e_p1) (kcT hfl (fun he11 => kcU ?_) (fun he11 => ⟨rfl, ?_⟩))
  · replace h := ifP h he11
    refine g_aloadn (pc := 5) (i0 := 0) (j := 0) (dK D_FP_lay 3 rfl) rfl rfl ?_
    refine vg_getO (pc := 6) (ci := 10) (f := 3) (dK D_FP_lay 4 rfl) q_436 hc0 (ltK rfl) (ltK rfl) rfl ?_
    refine g_iloadn (pc := 9) (i0 := 1) (j := 1) (dK D_FP_lay 5 rfl) rfl rfl ?_
    refine g_iloadn (pc := 10) (i0 := 2) (j := 2) (dK D_FP_lay 6 rfl) rfl rfl ?_
    refine bnE h (fun p2 e_p2 h => ?_)
    refine vg_cV (pc := 11) (As := [V a1, V a2]) (rest := []) (mc' := 0) (ms' := 0) (dK D_FP_lay 7 rfl) K_FP_248 (fitK rfl) (ltK rfl) (hw_10_3 hc0) rfl (leK rfl) (leK rfl) (leK rfl) (tf_Plan_layReason (hw_10_3 hc0) ha1 ha2 e_p2) (kcI (fun h_p2 => ?_))
    refine g_istoren (pc := 14) (i0 := 3) (ls2 := [(3, V p2), (0, .ref c0), (1, V a1), (2, V a2)]) (dK D_FP_lay 8 rfl) rfl (ltK rfl) rfl ?_
    refine g_iloadn (pc := 15) (i0 := 3) (j := 0) (dK D_FP_lay 9 rfl) rfl rfl ?_
    refine vg_iconst (pc := 16) (dK D_FP_lay 10 rfl) ?_
    refine vg_icmp_eq (pc := 17) (t := 33) (dK D_FP_lay 11 rfl) rfl h_p2 (inRk rfl) (fun hc10 => ?_) (fun hc10 => ?_)
    · replace h := ifP h hc10
      refine gL_weak (ls' := [(0, .ref c0), (1, V a1), (2, V a2), (3, V p2)]) (sbc 1 rfl (sbc 2 rfl (sbc 3 rfl (sbc 0 rfl sbn)))) ?_
      exact tj_FP_lay_33 hfl hc0 ha1 ha2 h_p2 h
    · replace h := ifN h hc10
      refine g_aloadn (pc := 20) (i0 := 0) (j := 1) (dK D_FP_lay 12 rfl) rfl rfl ?_
      refine vg_getO (pc := 21) (ci := 10) (f := 3) (dK D_FP_lay 13 rfl) q_436 hc0 (ltK rfl) (ltK rfl) rfl ?_
      refine g_iloadn (pc := 24) (i0 := 1) (j := 2) (dK D_FP_lay 14 rfl) rfl rfl ?_
      refine bnE h (fun p8 e_p8 h => ?_)
      refine vg_cV (pc := 25) (As := [V a1]) (rest := []) (mc' := 0) (ms' := 0) (dK D_FP_lay 15 rfl) K_FP_257 (fitK rfl) (ltK rfl) (hw_10_3 hc0) rfl (leK rfl) (leK rfl) (leK rfl) (tf_Plan_storyIsPrinted (hw_10_3 hc0) ha1 e_p8) (kcB ?_)
      refine vg_ifB_eq (pc := 28) (b := p8) (t := 33) (dK D_FP_lay 16 rfl) rfl (fun hc9 => ?_) (fun hc9 => ?_)
      · replace h := ifP h hc9
        refine vg_iconst (pc := 31) (dK D_FP_lay 17 rfl) ?_
        refine g_istoren (pc := 32) (i0 := 3) (ls2 := [(3, V 2), (0, .ref c0), (1, V a1), (2, V a2)]) (dK D_FP_lay 18 rfl) rfl (ltK rfl) rfl ?_
        refine gL_weak (ls' := [(0, .ref c0), (1, V a1), (2, V a2), (3, V 2)]) (sbc 1 rfl (sbc 2 rfl (sbc 3 rfl (sbc 0 rfl sbn)))) ?_
        exact tj_FP_lay_33 hfl hc0 ha1 ha2 (inRk rfl) h
      · replace h := ifN h hc9
        refine gL_weak (ls' := [(0, .ref c0), (1, V a1), (2, V a2), (3, V p2)]) (sbc 1 rfl (sbc 2 rfl (sbc 3 rfl (sbc 0 rfl sbn)))) ?_
        exact tj_FP_lay_33 hfl hc0 ha1 ha2 h_p2 h
  · replace h := ifN h he11
    obtain rfl := Option.some.inj h
    exact KT_thr he11
def fn_FP_take (c0 : Nat) (a1 : Int) (S : St) : Option (Nat × Bool × St) := bnO (fn_FP_needAd c0 a1 S) fun p1 => if p1 = 0 then (if 0 ≤ a1 ∧ a1 < 40 then (if (g S (tgt (tgt (tgt (tgt c0 3) 0) 0) 6) a1.toNat) = 0 then (some (0, false, S)) else (bnO (fn_Plan_isPrinted (tgt c0 3) (g S (tgt (tgt (tgt (tgt c0 3) 0) 0) 6) a1.toNat) S) fun p3 => if p3 = true then (some (0, false, S)) else (bnO (fn_History_keep (tgt c0 4) (tgt (tgt c0 3) 0) S) fun p5 => nm (u p5 (tgt (tgt (tgt (tgt c0 3) 0) 0) 6) a1.toNat 0) fun S6 => bnO (fn_Plan_recount (tgt c0 3) S6) fun p7 => some (0, true, p7)))) else none) else (some (p1, false, S))
theorem tf_FP_take {E : EV} {X : XT} (hfl : X.2.2.2 = false) {c0 : Nat} (hc0 : HC X 10 c0) {a1 : Int} (ha1 : inR a1) {S : St} {q : Nat × Bool × St} (h : fn_FP_take c0 a1 S = some q) : Ev E M_FP_take [.ref c0, V a1] (WX X S) 1 6 (KT X q.1 q.2.2 (KB X q.2.1 q.2.2)) := by
  refine Ev.of pn_FP rfl (leK rfl) ?_
  show Go E M_FP_take 1 6 0 [(0, .ref c0), (1, V a1)] [] (WX X S) 0 0 (KT X q.1 q.2.2 (KB X q.2.1 q.2.2))
  unfold fn_FP_take at h
  refine g_aloadn (pc := 0) (i0 := 0) (j := 0) (dK D_FP_take 0 rfl) rfl rfl ?_
  refine g_iloadn (pc := 1) (i0 := 1) (j := 1) (dK D_FP_take 1 rfl) rfl rfl ?_
  refine bnE h (fun p1 e_p1 h => ?_)
  refine vg_cV (pc := 2) (As := [V a1]) (rest := []) (mc' := 1) (ms' := 6) (dK D_FP_take 2 rfl) K_FP_162 (fitK rfl) (ltK rfl) hc0 rfl (leK rfl) (leK rfl) (leK rfl) (tf_FP_needAd hfl hc0 ha1 e_p1) (kcT hfl (fun he9 => kcU ?_) (fun he9 => ⟨rfl, ?_⟩))
  · replace h := ifP h he9
    refine g_aloadn (pc := 5) (i0 := 0) (j := 0) (dK D_FP_take 3 rfl) rfl rfl ?_
    refine vg_getO (pc := 6) (ci := 10) (f := 3) (dK D_FP_take 4 rfl) q_436 hc0 (ltK rfl) (ltK rfl) rfl ?_
    refine vg_getO (pc := 9) (ci := 4) (f := 0) (dK D_FP_take 5 rfl) q_303 (hw_10_3 hc0) (ltK rfl) (ltK rfl) rfl ?_
    refine vg_getO (pc := 12) (ci := 8) (f := 0) (dK D_FP_take 6 rfl) q_235 (hw_4_0 (hw_10_3 hc0)) (ltK rfl) (ltK rfl) rfl ?_
    refine vg_getA (pc := 15) (ci := 0) (f := 6) (dK D_FP_take 7 rfl) q_114 (hw_8_0 (hw_4_0 (hw_10_3 hc0))) (ltK rfl) (ltK rfl) rfl ?_
    refine g_iloadn (pc := 18) (i0 := 1) (j := 1) (dK D_FP_take 8 rfl) rfl rfl ?_
    refine gdE h (fun hi2 h => ?_)
    refine vg_iaload (pc := 19) (j := a1.toNat) (dK D_FP_take 9 rfl) (hw_0_6 (hw_8_0 (hw_4_0 (hw_10_3 hc0)))) rfl hi2 rfl ?_
    refine g_istoren (pc := 20) (i0 := 2) (ls2 := [(2, V (g S (tgt (tgt (tgt (tgt c0 3) 0) 0) 6) a1.toNat)), (0, .ref c0), (1, V a1)]) (dK D_FP_take 10 rfl) rfl (ltK rfl) rfl ?_
    refine g_iloadn (pc := 21) (i0 := 2) (j := 0) (dK D_FP_take 11 rfl) rfl rfl ?_
    refine vg_if_eq (pc := 22) (t := 36) (dK D_FP_take 12 rfl) rfl (g_in _ _ _) (fun hc8 => ?_) (fun hc8 => ?_)
    · replace h := ifP h hc8
      refine vg_iconst (pc := 36) (dK D_FP_take 18 rfl) ?_
      exact vg_iretB (pc := 37) (b := false) (dK D_FP_take 19 rfl) rfl (leK rfl) (leK rfl) (xf hfl) (by obtain rfl := Option.some.inj h; exact KT_ok ⟨rfl, rfl⟩)
    · replace h := ifN h hc8
      refine g_aloadn (pc := 25) (i0 := 0) (j := 1) (dK D_FP_take 13 rfl) rfl rfl ?_
      refine vg_getO (pc := 26) (ci := 10) (f := 3) (dK D_FP_take 14 rfl) q_436 hc0 (ltK rfl) (ltK rfl) rfl ?_
      refine g_iloadn (pc := 29) (i0 := 2) (j := 0) (dK D_FP_take 15 rfl) rfl rfl ?_
      refine bnE h (fun p3 e_p3 h => ?_)
      refine vg_cV (pc := 30) (As := [V (g S (tgt (tgt (tgt (tgt c0 3) 0) 0) 6) a1.toNat)]) (rest := []) (mc' := 0) (ms' := 0) (dK D_FP_take 16 rfl) K_FP_251 (fitK rfl) (ltK rfl) (hw_10_3 hc0) rfl (leK rfl) (leK rfl) (leK rfl) (tf_Plan_isPrinted (hw_10_3 hc0) (g_in _ _ _) e_p3) (kcB ?_)
      refine vg_ifB_eq (pc := 33) (b := p3) (t := 38) (dK D_FP_take 17 rfl) rfl (fun hc4 => ?_) (fun hc4 => ?_)
      · replace h := ifP h hc4
        refine vg_iconst (pc := 36) (dK D_FP_take 18 rfl) ?_
        exact vg_iretB (pc := 37) (b := false) (dK D_FP_take 19 rfl) rfl (leK rfl) (leK rfl) (xf hfl) (by obtain rfl := Option.some.inj h; exact KT_ok ⟨rfl, rfl⟩)
      · replace h := ifN h hc4
        refine g_aloadn (pc := 38) (i0 := 0) (j := 1) (dK D_FP_take 20 rfl) rfl rfl ?_
        refine vg_getO (pc := 39) (ci := 10) (f := 4) (dK D_FP_take 21 rfl) q_437 hc0 (ltK rfl) (ltK rfl) rfl ?_
        refine g_aloadn (pc := 42) (i0 := 0) (j := 1) (dK D_FP_take 22 rfl) rfl rfl ?_
        refine vg_getO (pc := 43) (ci := 10) (f := 3) (dK D_FP_take 23 rfl) q_436 hc0 (ltK rfl) (ltK rfl) rfl ?_
        refine vg_getO (pc := 46) (ci := 4) (f := 0) (dK D_FP_take 24 rfl) q_303 (hw_10_3 hc0) (ltK rfl) (ltK rfl) rfl ?_
        refine bnE h (fun p5 e_p5 h => ?_)
        refine vg_cV (pc := 49) (As := [.ref (tgt (tgt c0 3) 0)]) (rest := []) (mc' := 0) (ms' := 0) (dK D_FP_take 25 rfl) K_FP_155 (fitK rfl) (ltK rfl) (hw_10_4 hc0) rfl (leK rfl) (leK rfl) (leK rfl) (tf_History_keep (hw_10_4 hc0) (hw_4_0 (hw_10_3 hc0)) e_p5) (kcU ?_)
        refine g_aloadn (pc := 52) (i0 := 0) (j := 1) (dK D_FP_take 26 rfl) rfl rfl ?_
        refine vg_getO (pc := 53) (ci := 10) (f := 3) (dK D_FP_take 27 rfl) q_436 hc0 (ltK rfl) (ltK rfl) rfl ?_
        refine vg_getO (pc := 56) (ci := 4) (f := 0) (dK D_FP_take 28 rfl) q_303 (hw_10_3 hc0) (ltK rfl) (ltK rfl) rfl ?_
        refine vg_getO (pc := 59) (ci := 8) (f := 0) (dK D_FP_take 29 rfl) q_235 (hw_4_0 (hw_10_3 hc0)) (ltK rfl) (ltK rfl) rfl ?_
        refine vg_getA (pc := 62) (ci := 0) (f := 6) (dK D_FP_take 30 rfl) q_114 (hw_8_0 (hw_4_0 (hw_10_3 hc0))) (ltK rfl) (ltK rfl) rfl ?_
        refine g_iloadn (pc := 65) (i0 := 1) (j := 2) (dK D_FP_take 31 rfl) rfl rfl ?_
        refine vg_iconst (pc := 66) (dK D_FP_take 32 rfl) ?_
        refine nmE h (fun S6 e_S6 h => ?_)
        refine vg_iastore (pc := 67) (z := 0) (dK D_FP_take 33 rfl) (hw_0_6 (hw_8_0 (hw_4_0 (hw_10_3 hc0)))) rfl hi2 rfl e_S6 ?_
        refine g_aloadn (pc := 68) (i0 := 0) (j := 1) (dK D_FP_take 34 rfl) rfl rfl ?_
        refine vg_getO (pc := 69) (ci := 10) (f := 3) (dK D_FP_take 35 rfl) q_436 hc0 (ltK rfl) (ltK rfl) rfl ?_
        refine bnE h (fun p7 e_p7 h => ?_)
        refine vg_cV (pc := 72) (As := []) (rest := []) (mc' := 0) (ms' := 0) (dK D_FP_take 36 rfl) K_FP_254 (fitK rfl) (ltK rfl) (hw_10_3 hc0) rfl (leK rfl) (leK rfl) (leK rfl) (tf_Plan_recount (hw_10_3 hc0) e_p7) (kcU ?_)
        refine vg_iconst (pc := 75) (dK D_FP_take 37 rfl) ?_
        exact vg_iretB (pc := 76) (b := true) (dK D_FP_take 38 rfl) rfl (leK rfl) (leK rfl) (xf hfl) (by obtain rfl := Option.some.inj h; exact KT_ok ⟨rfl, rfl⟩)
  · replace h := ifN h he9
    obtain rfl := Option.some.inj h
    exact KT_thr he9
def fn_FP_takeStory (c0 : Nat) (a1 : Int) (S : St) : Option (Nat × Bool × St) := bnO (fn_FP_needStory c0 a1 S) fun p1 => if p1 = 0 then (if 0 ≤ a1 ∧ a1 < 10 then (if (g S (tgt (tgt (tgt (tgt c0 3) 0) 1) 4) a1.toNat) = 0 then (some (0, false, S)) else (bnO (fn_Plan_storyIsPrinted (tgt c0 3) a1 S) fun p3 => if p3 = true then (some (0, false, S)) else (bnO (fn_History_keep (tgt c0 4) (tgt (tgt c0 3) 0) S) fun p5 => nm (u p5 (tgt (tgt (tgt (tgt c0 3) 0) 1) 4) a1.toNat 0) fun S6 => bnO (fn_Plan_recount (tgt c0 3) S6) fun p7 => some (0, true, p7)))) else none) else (some (p1, false, S))
theorem tf_FP_takeStory {E : EV} {X : XT} (hfl : X.2.2.2 = false) {c0 : Nat} (hc0 : HC X 10 c0) {a1 : Int} (ha1 : inR a1) {S : St} {q : Nat × Bool × St} (h : fn_FP_takeStory c0 a1 S = some q) : Ev E M_FP_takeStory [.ref c0, V a1] (WX X S) 1 6 (KT X q.1 q.2.2 (KB X q.2.1 q.2.2)) := by
  refine Ev.of pn_FP rfl (leK rfl) ?_
  show Go E M_FP_takeStory 1 6 0 [(0, .ref c0), (1, V a1)] [] (WX X S) 0 0 (KT X q.1 q.2.2 (KB X q.2.1 q.2.2))
  unfold fn_FP_takeStory at h
  refine g_aloadn (pc := 0) (i0 := 0) (j := 0) (dK D_FP_takeStory 0 rfl) rfl rfl ?_
  refine g_iloadn (pc := 1) (i0 := 1) (j := 1) (dK D_FP_takeStory 1 rfl) rfl rfl ?_
  refine bnE h (fun p1 e_p1 h => ?_)
  refine vg_cV (pc := 2) (As := [V a1]) (rest := []) (mc' := 1) (ms' := 6) (dK D_FP_takeStory 2 rfl) K_FP_192 (fitK rfl) (ltK rfl) hc0 rfl (leK rfl) (leK rfl) (leK rfl) (tf_FP_needStory hfl hc0 ha1 e_p1) (kcT hfl (fun he9 => kcU ?_) (fun he9 => ⟨rfl, ?_⟩))
  · replace h := ifP h he9
    refine g_aloadn (pc := 5) (i0 := 0) (j := 0) (dK D_FP_takeStory 3 rfl) rfl rfl ?_
    refine vg_getO (pc := 6) (ci := 10) (f := 3) (dK D_FP_takeStory 4 rfl) q_436 hc0 (ltK rfl) (ltK rfl) rfl ?_
    refine vg_getO (pc := 9) (ci := 4) (f := 0) (dK D_FP_takeStory 5 rfl) q_303 (hw_10_3 hc0) (ltK rfl) (ltK rfl) rfl ?_
    refine vg_getO (pc := 12) (ci := 8) (f := 1) (dK D_FP_takeStory 6 rfl) q_240 (hw_4_0 (hw_10_3 hc0)) (ltK rfl) (ltK rfl) rfl ?_
    refine vg_getA (pc := 15) (ci := 9) (f := 4) (dK D_FP_takeStory 7 rfl) q_162 (hw_8_1 (hw_4_0 (hw_10_3 hc0))) (ltK rfl) (ltK rfl) rfl ?_
    refine g_iloadn (pc := 18) (i0 := 1) (j := 1) (dK D_FP_takeStory 8 rfl) rfl rfl ?_
    refine gdE h (fun hi2 h => ?_)
    refine vg_iaload (pc := 19) (j := a1.toNat) (dK D_FP_takeStory 9 rfl) (hw_9_4 (hw_8_1 (hw_4_0 (hw_10_3 hc0)))) rfl hi2 rfl ?_
    refine vg_if_eq (pc := 20) (t := 34) (dK D_FP_takeStory 10 rfl) rfl (g_in _ _ _) (fun hc8 => ?_) (fun hc8 => ?_)
    · replace h := ifP h hc8
      refine vg_iconst (pc := 34) (dK D_FP_takeStory 16 rfl) ?_
      exact vg_iretB (pc := 35) (b := false) (dK D_FP_takeStory 17 rfl) rfl (leK rfl) (leK rfl) (xf hfl) (by obtain rfl := Option.some.inj h; exact KT_ok ⟨rfl, rfl⟩)
    · replace h := ifN h hc8
      refine g_aloadn (pc := 23) (i0 := 0) (j := 0) (dK D_FP_takeStory 11 rfl) rfl rfl ?_
      refine vg_getO (pc := 24) (ci := 10) (f := 3) (dK D_FP_takeStory 12 rfl) q_436 hc0 (ltK rfl) (ltK rfl) rfl ?_
      refine g_iloadn (pc := 27) (i0 := 1) (j := 1) (dK D_FP_takeStory 13 rfl) rfl rfl ?_
      refine bnE h (fun p3 e_p3 h => ?_)
      refine vg_cV (pc := 28) (As := [V a1]) (rest := []) (mc' := 0) (ms' := 0) (dK D_FP_takeStory 14 rfl) K_FP_257 (fitK rfl) (ltK rfl) (hw_10_3 hc0) rfl (leK rfl) (leK rfl) (leK rfl) (tf_Plan_storyIsPrinted (hw_10_3 hc0) ha1 e_p3) (kcB ?_)
      refine vg_ifB_eq (pc := 31) (b := p3) (t := 36) (dK D_FP_takeStory 15 rfl) rfl (fun hc4 => ?_) (fun hc4 => ?_)
      · replace h := ifP h hc4
        refine vg_iconst (pc := 34) (dK D_FP_takeStory 16 rfl) ?_
        exact vg_iretB (pc := 35) (b := false) (dK D_FP_takeStory 17 rfl) rfl (leK rfl) (leK rfl) (xf hfl) (by obtain rfl := Option.some.inj h; exact KT_ok ⟨rfl, rfl⟩)
      · replace h := ifN h hc4
        refine g_aloadn (pc := 36) (i0 := 0) (j := 0) (dK D_FP_takeStory 18 rfl) rfl rfl ?_
        refine vg_getO (pc := 37) (ci := 10) (f := 4) (dK D_FP_takeStory 19 rfl) q_437 hc0 (ltK rfl) (ltK rfl) rfl ?_
        refine g_aloadn (pc := 40) (i0 := 0) (j := 0) (dK D_FP_takeStory 20 rfl) rfl rfl ?_
        refine vg_getO (pc := 41) (ci := 10) (f := 3) (dK D_FP_takeStory 21 rfl) q_436 hc0 (ltK rfl) (ltK rfl) rfl ?_
        refine vg_getO (pc := 44) (ci := 4) (f := 0) (dK D_FP_takeStory 22 rfl) q_303 (hw_10_3 hc0) (ltK rfl) (ltK rfl) rfl ?_
        refine bnE h (fun p5 e_p5 h => ?_)
        refine vg_cV (pc := 47) (As := [.ref (tgt (tgt c0 3) 0)]) (rest := []) (mc' := 0) (ms' := 0) (dK D_FP_takeStory 23 rfl) K_FP_155 (fitK rfl) (ltK rfl) (hw_10_4 hc0) rfl (leK rfl) (leK rfl) (leK rfl) (tf_History_keep (hw_10_4 hc0) (hw_4_0 (hw_10_3 hc0)) e_p5) (kcU ?_)
        refine g_aloadn (pc := 50) (i0 := 0) (j := 0) (dK D_FP_takeStory 24 rfl) rfl rfl ?_
        refine vg_getO (pc := 51) (ci := 10) (f := 3) (dK D_FP_takeStory 25 rfl) q_436 hc0 (ltK rfl) (ltK rfl) rfl ?_
        refine vg_getO (pc := 54) (ci := 4) (f := 0) (dK D_FP_takeStory 26 rfl) q_303 (hw_10_3 hc0) (ltK rfl) (ltK rfl) rfl ?_
        refine vg_getO (pc := 57) (ci := 8) (f := 1) (dK D_FP_takeStory 27 rfl) q_240 (hw_4_0 (hw_10_3 hc0)) (ltK rfl) (ltK rfl) rfl ?_
        refine vg_getA (pc := 60) (ci := 9) (f := 4) (dK D_FP_takeStory 28 rfl) q_162 (hw_8_1 (hw_4_0 (hw_10_3 hc0))) (ltK rfl) (ltK rfl) rfl ?_
        refine g_iloadn (pc := 63) (i0 := 1) (j := 1) (dK D_FP_takeStory 29 rfl) rfl rfl ?_
        refine vg_iconst (pc := 64) (dK D_FP_takeStory 30 rfl) ?_
        refine nmE h (fun S6 e_S6 h => ?_)
        refine vg_iastore (pc := 65) (z := 0) (dK D_FP_takeStory 31 rfl) (hw_9_4 (hw_8_1 (hw_4_0 (hw_10_3 hc0)))) rfl hi2 rfl e_S6 ?_
        refine g_aloadn (pc := 66) (i0 := 0) (j := 0) (dK D_FP_takeStory 32 rfl) rfl rfl ?_
        refine vg_getO (pc := 67) (ci := 10) (f := 3) (dK D_FP_takeStory 33 rfl) q_436 hc0 (ltK rfl) (ltK rfl) rfl ?_
        refine bnE h (fun p7 e_p7 h => ?_)
        refine vg_cV (pc := 70) (As := []) (rest := []) (mc' := 0) (ms' := 0) (dK D_FP_takeStory 34 rfl) K_FP_254 (fitK rfl) (ltK rfl) (hw_10_3 hc0) rfl (leK rfl) (leK rfl) (leK rfl) (tf_Plan_recount (hw_10_3 hc0) e_p7) (kcU ?_)
        refine vg_iconst (pc := 73) (dK D_FP_takeStory 35 rfl) ?_
        exact vg_iretB (pc := 74) (b := true) (dK D_FP_takeStory 36 rfl) rfl (leK rfl) (leK rfl) (xf hfl) (by obtain rfl := Option.some.inj h; exact KT_ok ⟨rfl, rfl⟩)
  · replace h := ifN h he9
    obtain rfl := Option.some.inj h
    exact KT_thr he9
