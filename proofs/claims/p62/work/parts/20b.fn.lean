def lb_Plan_layReason_69 (c0 : Nat) (a1 : Int) (a2 : Int) (a3 : Int) (S : St) (go : Int × Int → Option (Int)) (a4 : Int) (a5 : Int) : Option (Int) := if a3 ≤ a5 then (some a4) else (nm (wr (a2 + a5)) fun v5 => bnO (fn_Plan_pageReason c0 a1 v5 S) fun p6 => bnO (fn_Plan_lowerReason a4 p6 S) fun p7 => nm (wr (a5 + 1)) fun v8 => go (p7, v8))
def lo_Plan_layReason_69 (c0 : Nat) (a1 : Int) (a2 : Int) (a3 : Int) (S : St) : Nat → Int × Int → Option (Int) := lp fun go p => lb_Plan_layReason_69 c0 a1 a2 a3 S go p.1 p.2
theorem tl_Plan_layReason_69 {E : EV} {X : XT} {c0 : Nat} (hc0 : HC X 4 c0) {a1 : Int} (ha1 : inR a1) {a2 : Int} (ha2 : inR a2) {a3 : Int} (ha3 : inR a3) {S : St} {K : RK → PS → Prop} {q : Int} (hx : inR q → Go E M_Plan_layReason 0 0 97 [(4, V q)] [] (WX X S) 0 0 K) : ∀ n a, lo_Plan_layReason_69 c0 a1 a2 a3 S n a = some q → inR a.1 → inR a.2 → Go E M_Plan_layReason 0 0 69 [(0, .ref c0), (1, V a1), (2, V a2), (3, V a3), (4, V a.1), (5, V a.2)] [] (WX X S) 0 0 K := by
  refine lp_ind (P := fun a : Int × Int => inR a.1 → inR a.2 → Go E M_Plan_layReason 0 0 69 [(0, .ref c0), (1, V a1), (2, V a2), (3, V a3), (4, V a.1), (5, V a.2)] [] (WX X S) 0 0 K) (fun go ih a h => ?_)
  obtain ⟨a4, a5⟩ := a
  intro ha4 ha5
  show Go E M_Plan_layReason 0 0 69 [(0, .ref c0), (1, V a1), (2, V a2), (3, V a3), (4, V a4), (5, V a5)] [] (WX X S) 0 0 K
  replace h : lb_Plan_layReason_69 c0 a1 a2 a3 S go a4 a5 = some q := h
  unfold lb_Plan_layReason_69 at h
  refine g_iload (pc := 69) (j := 5) (dK D_Plan_layReason_0 39 rfl) rfl ?_
  refine g_iloadn (pc := 71) (i0 := 3) (j := 3) (dK D_Plan_layReason_0 40 rfl) rfl rfl ?_
  refine vg_icmp_ge (pc := 72) (t := 97) (dK D_Plan_layReason_0 41 rfl) rfl ha5 ha3 (fun hc9 => ?_) (fun hc9 => ?_)
  · replace h := ifP h hc9
    obtain rfl := Option.some.inj h
    refine gL_weak (ls' := [(4, V a4)]) (sbc 4 rfl sbn) ?_
    exact hx ha4
  · replace h := ifN h hc9
    refine g_iload (pc := 75) (j := 4) (dK D_Plan_layReason_0 42 rfl) rfl ?_
    refine g_aloadn (pc := 77) (i0 := 0) (j := 0) (dK D_Plan_layReason_0 43 rfl) rfl rfl ?_
    refine g_iloadn (pc := 78) (i0 := 1) (j := 1) (dK D_Plan_layReason_0 44 rfl) rfl rfl ?_
    refine g_iloadn (pc := 79) (i0 := 2) (j := 2) (dK D_Plan_layReason_0 45 rfl) rfl rfl ?_
    refine g_iload (pc := 80) (j := 5) (dK D_Plan_layReason_0 46 rfl) rfl ?_
    refine vg_iadd (pc := 82) (dK D_Plan_layReason_0 47 rfl) ?_
    refine nmE h (fun v5 e_v5 h => ?_)
    refine gtop e_v5 ?_
    refine bnE h (fun p6 e_p6 h => ?_)
    refine vg_cV (pc := 83) (As := [V a1, V v5]) (rest := [V a4]) (mc' := 0) (ms' := 0) (dK D_Plan_layReason_0 48 rfl) K_Plan_156 (fitK rfl) (ltK rfl) hc0 rfl (leK rfl) (leK rfl) (leK rfl) (tf_Plan_pageReason hc0 ha1 (Vn_in e_v5) e_p6) (kcI (fun h_p6 => ?_))
    refine bnE h (fun p7 e_p7 h => ?_)
    refine vg_cS (pc := 86) (As := [V a4, V p6]) (rest := []) (mc' := 0) (ms' := 0) (dK D_Plan_layReason_0 49 rfl) K_Plan_159 (fitK rfl) rfl (leK rfl) (leK rfl) (leK rfl) (tf_Plan_lowerReason ha4 h_p6 e_p7) (kcI (fun h_p7 => ?_))
    refine g_istore (pc := 89) (ls2 := [(4, V p7), (0, .ref c0), (1, V a1), (2, V a2), (3, V a3), (5, V a5)]) (dK D_Plan_layReason_1 0 rfl) (ltK rfl) rfl ?_
    refine nmE h (fun v8 e_v8 h => ?_)
    refine vg_iinc (pc := 91) (j := 5) (a := a5) (z := 1) (ls2 := [(5, V v8), (4, V p7), (0, .ref c0), (1, V a1), (2, V a2), (3, V a3)]) (dK D_Plan_layReason_1 1 rfl) rfl e_v8 (ltK rfl) rfl ?_
    refine g_goto (pc := 94) (tgt := 69) (dK D_Plan_layReason_1 2 rfl) rfl ?_
    refine gL_weak (ls' := [(0, .ref c0), (1, V a1), (2, V a2), (3, V a3), (4, V p7), (5, V v8)]) (sbc 2 rfl (sbc 3 rfl (sbc 4 rfl (sbc 5 rfl (sbc 1 rfl (sbc 0 rfl sbn)))))) ?_
    replace h := ih _ h
    exact h h_p7 (Vn_in e_v8)
def fn_Plan_layReason (c0 : Nat) (a1 : Int) (a2 : Int) (S : St) : Option (Int) := if 0 ≤ a1 ∧ a1 < 10 then (if a2 < 1 then (some 1) else (if (g S c0 1) < a2 then (some 1) else (nm (wr ((a2 + (g S (tgt (tgt (tgt c0 0) 1) 0) a1.toNat)) - 1)) fun v2 => if v2 ≤ (g S c0 1) then (bnO (fn_Plan_isWrongSide (g S (tgt (tgt (tgt c0 0) 1) 2) a1.toNat) a2 S) fun p3 => if p3 = true then (bnO (lo_Plan_layReason_69 c0 a1 a2 (g S (tgt (tgt (tgt c0 0) 1) 0) a1.toNat) S FU (5, 0)) fun p11 => some p11) else (bnO (lo_Plan_layReason_69 c0 a1 a2 (g S (tgt (tgt (tgt c0 0) 1) 0) a1.toNat) S FU (0, 0)) fun p10 => some p10)) else (some 1)))) else none
theorem tf_Plan_layReason {E : EV} {X : XT} {c0 : Nat} (hc0 : HC X 4 c0) {a1 : Int} (ha1 : inR a1) {a2 : Int} (ha2 : inR a2) {S : St} {q : Int} (h : fn_Plan_layReason c0 a1 a2 S = some q) : Ev E M_Plan_layReason [.ref c0, V a1, V a2] (WX X S) 0 0 (KI X q S) := by
  refine Ev.of pn_Plan rfl (leK rfl) ?_
  show Go E M_Plan_layReason 0 0 0 [(0, .ref c0), (1, V a1), (2, V a2)] [] (WX X S) 0 0 (KI X q S)
  unfold fn_Plan_layReason at h
  refine g_aloadn (pc := 0) (i0 := 0) (j := 0) (dK D_Plan_layReason_0 0 rfl) rfl rfl ?_
  refine vg_getO (pc := 1) (ci := 4) (f := 0) (dK D_Plan_layReason_0 1 rfl) q_301 hc0 (ltK rfl) (ltK rfl) rfl ?_
  refine vg_getO (pc := 4) (ci := 8) (f := 1) (dK D_Plan_layReason_0 2 rfl) q_237 (hw_4_0 hc0) (ltK rfl) (ltK rfl) rfl ?_
  refine vg_getA (pc := 7) (ci := 9) (f := 0) (dK D_Plan_layReason_0 3 rfl) q_146 (hw_8_1 (hw_4_0 hc0)) (ltK rfl) (ltK rfl) rfl ?_
  refine g_iloadn (pc := 10) (i0 := 1) (j := 1) (dK D_Plan_layReason_0 4 rfl) rfl rfl ?_
  refine gdE h (fun hi1 h => ?_)
  refine vg_iaload (pc := 11) (j := a1.toNat) (dK D_Plan_layReason_0 5 rfl) (hw_9_0 (hw_8_1 (hw_4_0 hc0))) rfl hi1 rfl ?_
  refine g_istoren (pc := 12) (i0 := 3) (ls2 := [(3, V (g S (tgt (tgt (tgt c0 0) 1) 0) a1.toNat)), (0, .ref c0), (1, V a1), (2, V a2)]) (dK D_Plan_layReason_0 6 rfl) rfl (ltK rfl) rfl ?_
  refine g_iloadn (pc := 13) (i0 := 2) (j := 3) (dK D_Plan_layReason_0 7 rfl) rfl rfl ?_
  refine vg_iconst (pc := 14) (dK D_Plan_layReason_0 8 rfl) ?_
  refine vg_icmp_lt (pc := 15) (t := 38) (dK D_Plan_layReason_0 9 rfl) rfl ha2 (inRk rfl) (fun hc14 => ?_) (fun hc14 => ?_)
  · replace h := ifP h hc14
    refine vg_iconst (pc := 38) (dK D_Plan_layReason_0 22 rfl) ?_
    exact vg_iretI (pc := 39) (r := 1) (dK D_Plan_layReason_0 23 rfl) rfl (leK rfl) (leK rfl) (fun _ => rfl) (by obtain rfl := Option.some.inj h; exact ⟨rfl, (inRk rfl), rfl⟩)
  · replace h := ifN h hc14
    refine g_iloadn (pc := 18) (i0 := 2) (j := 3) (dK D_Plan_layReason_0 10 rfl) rfl rfl ?_
    refine g_aloadn (pc := 19) (i0 := 0) (j := 1) (dK D_Plan_layReason_0 11 rfl) rfl rfl ?_
    refine vg_getI (pc := 20) (ci := 4) (f := 1) (dK D_Plan_layReason_0 12 rfl) q_305 hc0 (ltK rfl) (ltK rfl) rfl ?_
    refine vg_icmp_gt (pc := 23) (t := 38) (dK D_Plan_layReason_0 13 rfl) rfl ha2 (g_in _ _ _) (fun hc13 => ?_) (fun hc13 => ?_)
    · replace h := ifP h hc13
      refine vg_iconst (pc := 38) (dK D_Plan_layReason_0 22 rfl) ?_
      exact vg_iretI (pc := 39) (r := 1) (dK D_Plan_layReason_0 23 rfl) rfl (leK rfl) (leK rfl) (fun _ => rfl) (by obtain rfl := Option.some.inj h; exact ⟨rfl, (inRk rfl), rfl⟩)
    · replace h := ifN h hc13
      refine g_iloadn (pc := 26) (i0 := 2) (j := 3) (dK D_Plan_layReason_0 14 rfl) rfl rfl ?_
      refine g_iloadn (pc := 27) (i0 := 3) (j := 0) (dK D_Plan_layReason_0 15 rfl) rfl rfl ?_
      refine vg_iadd (pc := 28) (dK D_Plan_layReason_0 16 rfl) ?_
      refine vg_iconst (pc := 29) (dK D_Plan_layReason_0 17 rfl) ?_
      refine vg_isub (pc := 30) (dK D_Plan_layReason_0 18 rfl) ?_
      refine g_aloadn (pc := 31) (i0 := 0) (j := 1) (dK D_Plan_layReason_0 19 rfl) rfl rfl ?_
      refine vg_getI (pc := 32) (ci := 4) (f := 1) (dK D_Plan_layReason_0 20 rfl) q_305 hc0 (ltK rfl) (ltK rfl) rfl ?_
      refine nmE h (fun v2 e_v2 h => ?_)
      refine gsk (st' := [V (g S c0 1), V v2]) (by rw [Vn e_v2]) ?_
      refine vg_icmp_le (pc := 35) (t := 40) (dK D_Plan_layReason_0 21 rfl) rfl (Vn_in e_v2) (g_in _ _ _) (fun hc12 => ?_) (fun hc12 => ?_)
      · replace h := ifP h hc12
        refine g_aloadn (pc := 40) (i0 := 0) (j := 1) (dK D_Plan_layReason_0 24 rfl) rfl rfl ?_
        refine vg_getO (pc := 41) (ci := 4) (f := 0) (dK D_Plan_layReason_0 25 rfl) q_301 hc0 (ltK rfl) (ltK rfl) rfl ?_
        refine vg_getO (pc := 44) (ci := 8) (f := 1) (dK D_Plan_layReason_0 26 rfl) q_237 (hw_4_0 hc0) (ltK rfl) (ltK rfl) rfl ?_
        refine vg_getA (pc := 47) (ci := 9) (f := 2) (dK D_Plan_layReason_0 27 rfl) q_154 (hw_8_1 (hw_4_0 hc0)) (ltK rfl) (ltK rfl) rfl ?_
        refine g_iloadn (pc := 50) (i0 := 1) (j := 2) (dK D_Plan_layReason_0 28 rfl) rfl rfl ?_
        refine vg_iaload (pc := 51) (j := a1.toNat) (dK D_Plan_layReason_0 29 rfl) (hw_9_2 (hw_8_1 (hw_4_0 hc0))) rfl hi1 rfl ?_
        refine g_iloadn (pc := 52) (i0 := 2) (j := 3) (dK D_Plan_layReason_0 30 rfl) rfl rfl ?_
        refine bnE h (fun p3 e_p3 h => ?_)
        refine vg_cS (pc := 53) (As := [V (g S (tgt (tgt (tgt c0 0) 1) 2) a1.toNat), V a2]) (rest := []) (mc' := 0) (ms' := 0) (dK D_Plan_layReason_0 31 rfl) K_Plan_146 (fitK rfl) rfl (leK rfl) (leK rfl) (leK rfl) (tf_Plan_isWrongSide (g_in _ _ _) ha2 e_p3) (kcB ?_)
        refine vg_ifB_eq (pc := 56) (b := p3) (t := 63) (dK D_Plan_layReason_0 32 rfl) rfl (fun hc4 => ?_) (fun hc4 => ?_)
        · replace h := ifP h hc4
          refine vg_iconst (pc := 59) (dK D_Plan_layReason_0 33 rfl) ?_
          refine g_goto (pc := 60) (tgt := 64) (dK D_Plan_layReason_0 34 rfl) rfl ?_
          refine g_istore (pc := 64) (ls2 := [(4, V 5), (3, V (g S (tgt (tgt (tgt c0 0) 1) 0) a1.toNat)), (0, .ref c0), (1, V a1), (2, V a2)]) (dK D_Plan_layReason_0 36 rfl) (ltK rfl) rfl ?_
          refine vg_iconst (pc := 66) (dK D_Plan_layReason_0 37 rfl) ?_
          refine g_istore (pc := 67) (ls2 := [(5, V 0), (4, V 5), (3, V (g S (tgt (tgt (tgt c0 0) 1) 0) a1.toNat)), (0, .ref c0), (1, V a1), (2, V a2)]) (dK D_Plan_layReason_0 38 rfl) (ltK rfl) rfl ?_
          refine bnE h (fun p11 e_p11 h => ?_)
          refine gL_weak (ls' := [(0, .ref c0), (1, V a1), (2, V a2), (3, V (g S (tgt (tgt (tgt c0 0) 1) 0) a1.toNat)), (4, V 5), (5, V 0)]) (sbc 3 rfl (sbc 4 rfl (sbc 5 rfl (sbc 2 rfl (sbc 1 rfl (sbc 0 rfl sbn)))))) ?_
          refine tl_Plan_layReason_69 hc0 ha1 ha2 (g_in _ _ _) (fun hx4_p11 => ?_) FU (5, 0) e_p11 (inRk rfl) (inRk rfl)
          refine g_iload (pc := 97) (j := 0) (dK D_Plan_layReason_1 3 rfl) rfl ?_
          exact vg_iretI (pc := 99) (r := p11) (dK D_Plan_layReason_1 4 rfl) rfl (leK rfl) (leK rfl) (fun _ => rfl) (by obtain rfl := Option.some.inj h; exact ⟨rfl, hx4_p11, rfl⟩)
        · replace h := ifN h hc4
          refine vg_iconst (pc := 63) (dK D_Plan_layReason_0 35 rfl) ?_
          refine g_istore (pc := 64) (ls2 := [(4, V 0), (3, V (g S (tgt (tgt (tgt c0 0) 1) 0) a1.toNat)), (0, .ref c0), (1, V a1), (2, V a2)]) (dK D_Plan_layReason_0 36 rfl) (ltK rfl) rfl ?_
          refine vg_iconst (pc := 66) (dK D_Plan_layReason_0 37 rfl) ?_
          refine g_istore (pc := 67) (ls2 := [(5, V 0), (4, V 0), (3, V (g S (tgt (tgt (tgt c0 0) 1) 0) a1.toNat)), (0, .ref c0), (1, V a1), (2, V a2)]) (dK D_Plan_layReason_0 38 rfl) (ltK rfl) rfl ?_
          refine bnE h (fun p10 e_p10 h => ?_)
          refine gL_weak (ls' := [(0, .ref c0), (1, V a1), (2, V a2), (3, V (g S (tgt (tgt (tgt c0 0) 1) 0) a1.toNat)), (4, V 0), (5, V 0)]) (sbc 3 rfl (sbc 4 rfl (sbc 5 rfl (sbc 2 rfl (sbc 1 rfl (sbc 0 rfl sbn)))))) ?_
          refine tl_Plan_layReason_69 hc0 ha1 ha2 (g_in _ _ _) (fun hx4_p10 => ?_) FU (0, 0) e_p10 (inRk rfl) (inRk rfl)
          refine g_iload (pc := 97) (j := 0) (dK D_Plan_layReason_1 3 rfl) rfl ?_
          exact vg_iretI (pc := 99) (r := p10) (dK D_Plan_layReason_1 4 rfl) rfl (leK rfl) (leK rfl) (fun _ => rfl) (by obtain rfl := Option.some.inj h; exact ⟨rfl, hx4_p10, rfl⟩)
      · replace h := ifN h hc12
        refine vg_iconst (pc := 38) (dK D_Plan_layReason_0 22 rfl) ?_
        exact vg_iretI (pc := 39) (r := 1) (dK D_Plan_layReason_0 23 rfl) rfl (leK rfl) (leK rfl) (fun _ => rfl) (by obtain rfl := Option.some.inj h; exact ⟨rfl, (inRk rfl), rfl⟩)
def fn_Reader_readLay (c0 : Nat) (S : St) : Option (Bool × St) := nm (wr ((g S (tgt (tgt (tgt c0 1) 0) 1) 5) - 1)) fun v1 => bnO (fn_Reader_readNumber c0 0 0 v1 S) fun p2 => if p2.1 = true then (bnO (fn_Reader_readNumber c0 1 1 (g p2.2 (tgt c0 1) 1) p2.2) fun p4 => if p4.1 = true then (if 0 ≤ (g p4.2 (tgt c0 2) 0) ∧ (g p4.2 (tgt c0 2) 0) < 10 then (if (g p4.2 (tgt (tgt (tgt (tgt c0 1) 0) 1) 4) (((g p4.2 (tgt c0 2) 0)).toNat)) = 0 then (bnO (fn_Plan_layReason (tgt c0 1) (g p4.2 (tgt c0 2) 0) (g p4.2 (tgt c0 2) 1) p4.2) fun p8 => if p8 = 0 then (nm (u p4.2 (tgt (tgt (tgt (tgt c0 1) 0) 1) 4) (((g p4.2 (tgt c0 2) 0)).toNat) (g p4.2 (tgt c0 2) 1)) fun S9 => bnO (fn_Plan_recount (tgt c0 1) S9) fun p10 => bnO (fn_Reader_readSemicolon c0 p10) fun p11 => some (p11.1, p11.2)) else (bnO (fn_Reader_fail c0 4 p4.2) fun p12 => some (p12.1, p12.2))) else (bnO (fn_Reader_fail c0 4 p4.2) fun p7 => some (p7.1, p7.2))) else none) else (some (false, p4.2))) else (some (false, p2.2))
theorem tf_Reader_readLay {E : EV} {X : XT} {c0 : Nat} (hc0 : HC X 5 c0) {S : St} {q : Bool × St} (h : fn_Reader_readLay c0 S = some q) : Ev E M_Reader_readLay [.ref c0] (WX X S) 0 0 (KB X q.1 q.2) := by
  refine Ev.of pn_Reader rfl (leK rfl) ?_
  show Go E M_Reader_readLay 0 0 0 [(0, .ref c0)] [] (WX X S) 0 0 (KB X q.1 q.2)
  unfold fn_Reader_readLay at h
  refine g_aloadn (pc := 0) (i0 := 0) (j := 0) (dK D_Reader_readLay_0 0 rfl) rfl rfl ?_
  refine vg_getO (pc := 1) (ci := 5) (f := 1) (dK D_Reader_readLay_0 1 rfl) q_344 hc0 (ltK rfl) (ltK rfl) rfl ?_
  refine vg_getO (pc := 4) (ci := 4) (f := 0) (dK D_Reader_readLay_0 2 rfl) q_304 (hw_5_1 hc0) (ltK rfl) (ltK rfl) rfl ?_
  refine vg_getO (pc := 7) (ci := 8) (f := 1) (dK D_Reader_readLay_0 3 rfl) q_239 (hw_4_0 (hw_5_1 hc0)) (ltK rfl) (ltK rfl) rfl ?_
  refine g_astoren (pc := 10) (i0 := 1) (ls2 := [(1, .ref (tgt (tgt (tgt c0 1) 0) 1)), (0, .ref c0)]) (dK D_Reader_readLay_0 4 rfl) rfl (ltK rfl) rfl ?_
  refine g_aloadn (pc := 11) (i0 := 0) (j := 1) (dK D_Reader_readLay_0 5 rfl) rfl rfl ?_
  refine vg_iconst (pc := 12) (dK D_Reader_readLay_0 6 rfl) ?_
  refine vg_iconst (pc := 13) (dK D_Reader_readLay_0 7 rfl) ?_
  refine g_aloadn (pc := 14) (i0 := 1) (j := 0) (dK D_Reader_readLay_0 8 rfl) rfl rfl ?_
  refine vg_getI (pc := 15) (ci := 9) (f := 5) (dK D_Reader_readLay_0 9 rfl) q_167 (hw_8_1 (hw_4_0 (hw_5_1 hc0))) (ltK rfl) (ltK rfl) rfl ?_
  refine vg_iconst (pc := 18) (dK D_Reader_readLay_0 10 rfl) ?_
  refine vg_isub (pc := 19) (dK D_Reader_readLay_0 11 rfl) ?_
  refine nmE h (fun v1 e_v1 h => ?_)
  refine gtop e_v1 ?_
  refine bnE h (fun p2 e_p2 h => ?_)
  refine vg_cV (pc := 20) (As := [V 0, V 0, V v1]) (rest := []) (mc' := 0) (ms' := 0) (dK D_Reader_readLay_0 12 rfl) K_Reader_64 (fitK rfl) (ltK rfl) hc0 rfl (leK rfl) (leK rfl) (leK rfl) (tf_Reader_readNumber hc0 (inRk rfl) (inRk rfl) (Vn_in e_v1) e_p2) (kcB ?_)
  refine vg_ifB_eq (pc := 23) (b := p2.1) (t := 42) (dK D_Reader_readLay_0 13 rfl) rfl (fun hc3 => ?_) (fun hc3 => ?_)
  · replace h := ifP h hc3
    refine g_aloadn (pc := 26) (i0 := 0) (j := 1) (dK D_Reader_readLay_0 14 rfl) rfl rfl ?_
    refine vg_iconst (pc := 27) (dK D_Reader_readLay_0 15 rfl) ?_
    refine vg_iconst (pc := 28) (dK D_Reader_readLay_0 16 rfl) ?_
    refine g_aloadn (pc := 29) (i0 := 0) (j := 1) (dK D_Reader_readLay_0 17 rfl) rfl rfl ?_
    refine vg_getO (pc := 30) (ci := 5) (f := 1) (dK D_Reader_readLay_0 18 rfl) q_344 hc0 (ltK rfl) (ltK rfl) rfl ?_
    refine vg_getI (pc := 33) (ci := 4) (f := 1) (dK D_Reader_readLay_0 19 rfl) q_308 (hw_5_1 hc0) (ltK rfl) (ltK rfl) rfl ?_
    refine bnE h (fun p4 e_p4 h => ?_)
    refine vg_cV (pc := 36) (As := [V 1, V 1, V (g p2.2 (tgt c0 1) 1)]) (rest := []) (mc' := 0) (ms' := 0) (dK D_Reader_readLay_0 20 rfl) K_Reader_64 (fitK rfl) (ltK rfl) hc0 rfl (leK rfl) (leK rfl) (leK rfl) (tf_Reader_readNumber hc0 (inRk rfl) (inRk rfl) (g_in _ _ _) e_p4) (kcB ?_)
    refine vg_ifB_ne (pc := 39) (b := p4.1) (t := 44) (dK D_Reader_readLay_0 21 rfl) rfl (fun hc5 => ?_) (fun hc5 => ?_)
    · replace h := ifP h hc5
      refine g_aloadn (pc := 44) (i0 := 1) (j := 0) (dK D_Reader_readLay_0 24 rfl) rfl rfl ?_
      refine vg_getA (pc := 45) (ci := 9) (f := 4) (dK D_Reader_readLay_0 25 rfl) q_163 (hw_8_1 (hw_4_0 (hw_5_1 hc0))) (ltK rfl) (ltK rfl) rfl ?_
      refine g_aloadn (pc := 48) (i0 := 0) (j := 1) (dK D_Reader_readLay_0 26 rfl) rfl rfl ?_
      refine vg_getA (pc := 49) (ci := 5) (f := 2) (dK D_Reader_readLay_0 27 rfl) q_346 hc0 (ltK rfl) (ltK rfl) rfl ?_
      refine vg_iconst (pc := 52) (dK D_Reader_readLay_0 28 rfl) ?_
      refine vg_iaload (pc := 53) (j := 0) (dK D_Reader_readLay_0 29 rfl) (hw_5_2 hc0) rfl ⟨by decide, by decide⟩ rfl ?_
      refine gdE h (fun hi6 h => ?_)
      refine vg_iaload (pc := 54) (j := ((g p4.2 (tgt c0 2) 0)).toNat) (dK D_Reader_readLay_0 30 rfl) (hw_9_4 (hw_8_1 (hw_4_0 (hw_5_1 hc0)))) rfl hi6 rfl ?_
      refine vg_if_ne (pc := 55) (t := 80) (dK D_Reader_readLay_0 31 rfl) rfl (g_in _ _ _) (fun hc14 => ?_) (fun hc14 => ?_)
      · replace h := ifN h hc14
        refine g_aloadn (pc := 80) (i0 := 0) (j := 1) (dK D_Reader_readLay_0 44 rfl) rfl rfl ?_
        refine vg_iconst (pc := 81) (dK D_Reader_readLay_0 45 rfl) ?_
        refine bnE h (fun p7 e_p7 h => ?_)
        refine vg_cV (pc := 82) (As := [V 4]) (rest := []) (mc' := 0) (ms' := 0) (dK D_Reader_readLay_0 46 rfl) K_Reader_68 (fitK rfl) (ltK rfl) hc0 rfl (leK rfl) (leK rfl) (leK rfl) (tf_Reader_fail hc0 (inRk rfl) e_p7) (kcB ?_)
        exact vg_iretB (pc := 85) (b := p7.1) (dK D_Reader_readLay_0 47 rfl) rfl (leK rfl) (leK rfl) (fun _ => rfl) (by obtain rfl := Option.some.inj h; exact ⟨rfl, rfl⟩)
      · replace h := ifP h hc14
        refine g_aloadn (pc := 58) (i0 := 0) (j := 1) (dK D_Reader_readLay_0 32 rfl) rfl rfl ?_
        refine vg_getO (pc := 59) (ci := 5) (f := 1) (dK D_Reader_readLay_0 33 rfl) q_344 hc0 (ltK rfl) (ltK rfl) rfl ?_
        refine g_aloadn (pc := 62) (i0 := 0) (j := 1) (dK D_Reader_readLay_0 34 rfl) rfl rfl ?_
        refine vg_getA (pc := 63) (ci := 5) (f := 2) (dK D_Reader_readLay_0 35 rfl) q_346 hc0 (ltK rfl) (ltK rfl) rfl ?_
        refine vg_iconst (pc := 66) (dK D_Reader_readLay_0 36 rfl) ?_
        refine vg_iaload (pc := 67) (j := 0) (dK D_Reader_readLay_0 37 rfl) (hw_5_2 hc0) rfl ⟨by decide, by decide⟩ rfl ?_
        refine g_aloadn (pc := 68) (i0 := 0) (j := 1) (dK D_Reader_readLay_0 38 rfl) rfl rfl ?_
        refine vg_getA (pc := 69) (ci := 5) (f := 2) (dK D_Reader_readLay_0 39 rfl) q_346 hc0 (ltK rfl) (ltK rfl) rfl ?_
        refine vg_iconst (pc := 72) (dK D_Reader_readLay_0 40 rfl) ?_
        refine vg_iaload (pc := 73) (j := 1) (dK D_Reader_readLay_0 41 rfl) (hw_5_2 hc0) rfl ⟨by decide, by decide⟩ rfl ?_
        refine bnE h (fun p8 e_p8 h => ?_)
        refine vg_cV (pc := 74) (As := [V (g p4.2 (tgt c0 2) 0), V (g p4.2 (tgt c0 2) 1)]) (rest := []) (mc' := 0) (ms' := 0) (dK D_Reader_readLay_0 42 rfl) K_Reader_182 (fitK rfl) (ltK rfl) (hw_5_1 hc0) rfl (leK rfl) (leK rfl) (leK rfl) (tf_Plan_layReason (hw_5_1 hc0) (g_in _ _ _) (g_in _ _ _) e_p8) (kcI (fun h_p8 => ?_))
        refine vg_if_eq (pc := 77) (t := 86) (dK D_Reader_readLay_0 43 rfl) rfl h_p8 (fun hc13 => ?_) (fun hc13 => ?_)
        · replace h := ifP h hc13
          refine g_aloadn (pc := 86) (i0 := 1) (j := 0) (dK D_Reader_readLay_0 48 rfl) rfl rfl ?_
          refine vg_getA (pc := 87) (ci := 9) (f := 4) (dK D_Reader_readLay_0 49 rfl) q_163 (hw_8_1 (hw_4_0 (hw_5_1 hc0))) (ltK rfl) (ltK rfl) rfl ?_
          refine g_aloadn (pc := 90) (i0 := 0) (j := 1) (dK D_Reader_readLay_1 0 rfl) rfl rfl ?_
          refine vg_getA (pc := 91) (ci := 5) (f := 2) (dK D_Reader_readLay_1 1 rfl) q_346 hc0 (ltK rfl) (ltK rfl) rfl ?_
          refine vg_iconst (pc := 94) (dK D_Reader_readLay_1 2 rfl) ?_
          refine vg_iaload (pc := 95) (j := 0) (dK D_Reader_readLay_1 3 rfl) (hw_5_2 hc0) rfl ⟨by decide, by decide⟩ rfl ?_
          refine g_aloadn (pc := 96) (i0 := 0) (j := 1) (dK D_Reader_readLay_1 4 rfl) rfl rfl ?_
          refine vg_getA (pc := 97) (ci := 5) (f := 2) (dK D_Reader_readLay_1 5 rfl) q_346 hc0 (ltK rfl) (ltK rfl) rfl ?_
          refine vg_iconst (pc := 100) (dK D_Reader_readLay_1 6 rfl) ?_
          refine vg_iaload (pc := 101) (j := 1) (dK D_Reader_readLay_1 7 rfl) (hw_5_2 hc0) rfl ⟨by decide, by decide⟩ rfl ?_
          refine nmE h (fun S9 e_S9 h => ?_)
          refine vg_iastore (pc := 102) (z := (g p4.2 (tgt c0 2) 1)) (dK D_Reader_readLay_1 8 rfl) (hw_9_4 (hw_8_1 (hw_4_0 (hw_5_1 hc0)))) rfl hi6 rfl e_S9 ?_
          refine g_aloadn (pc := 103) (i0 := 0) (j := 1) (dK D_Reader_readLay_1 9 rfl) rfl rfl ?_
          refine vg_getO (pc := 104) (ci := 5) (f := 1) (dK D_Reader_readLay_1 10 rfl) q_344 hc0 (ltK rfl) (ltK rfl) rfl ?_
          refine bnE h (fun p10 e_p10 h => ?_)
          refine vg_cV (pc := 107) (As := []) (rest := []) (mc' := 0) (ms' := 0) (dK D_Reader_readLay_1 11 rfl) K_Reader_178 (fitK rfl) (ltK rfl) (hw_5_1 hc0) rfl (leK rfl) (leK rfl) (leK rfl) (tf_Plan_recount (hw_5_1 hc0) e_p10) (kcU ?_)
          refine g_aloadn (pc := 110) (i0 := 0) (j := 1) (dK D_Reader_readLay_1 12 rfl) rfl rfl ?_
          refine bnE h (fun p11 e_p11 h => ?_)
          refine vg_cV (pc := 111) (As := []) (rest := []) (mc' := 0) (ms' := 0) (dK D_Reader_readLay_1 13 rfl) K_Reader_72 (fitK rfl) (ltK rfl) hc0 rfl (leK rfl) (leK rfl) (leK rfl) (tf_Reader_readSemicolon hc0 e_p11) (kcB ?_)
          exact vg_iretB (pc := 114) (b := p11.1) (dK D_Reader_readLay_1 14 rfl) rfl (leK rfl) (leK rfl) (fun _ => rfl) (by obtain rfl := Option.some.inj h; exact ⟨rfl, rfl⟩)
        · replace h := ifN h hc13
          refine g_aloadn (pc := 80) (i0 := 0) (j := 1) (dK D_Reader_readLay_0 44 rfl) rfl rfl ?_
          refine vg_iconst (pc := 81) (dK D_Reader_readLay_0 45 rfl) ?_
          refine bnE h (fun p12 e_p12 h => ?_)
          refine vg_cV (pc := 82) (As := [V 4]) (rest := []) (mc' := 0) (ms' := 0) (dK D_Reader_readLay_0 46 rfl) K_Reader_68 (fitK rfl) (ltK rfl) hc0 rfl (leK rfl) (leK rfl) (leK rfl) (tf_Reader_fail hc0 (inRk rfl) e_p12) (kcB ?_)
          exact vg_iretB (pc := 85) (b := p12.1) (dK D_Reader_readLay_0 47 rfl) rfl (leK rfl) (leK rfl) (fun _ => rfl) (by obtain rfl := Option.some.inj h; exact ⟨rfl, rfl⟩)
    · replace h := ifN h hc5
      refine vg_iconst (pc := 42) (dK D_Reader_readLay_0 22 rfl) ?_
      exact vg_iretB (pc := 43) (b := false) (dK D_Reader_readLay_0 23 rfl) rfl (leK rfl) (leK rfl) (fun _ => rfl) (by obtain rfl := Option.some.inj h; exact ⟨rfl, rfl⟩)
  · replace h := ifN h hc3
    refine vg_iconst (pc := 42) (dK D_Reader_readLay_0 22 rfl) ?_
    exact vg_iretB (pc := 43) (b := false) (dK D_Reader_readLay_0 23 rfl) rfl (leK rfl) (leK rfl) (fun _ => rfl) (by obtain rfl := Option.some.inj h; exact ⟨rfl, rfl⟩)
def fn_Reader_readStatement (c0 : Nat) (S : St) : Option (Bool × St) := bnO (fn_Reader_isWord c0 1 S) fun p1 => if p1 = true then (bnO (fn_Reader_readColor c0 S) fun p22 => some (p22.1, p22.2)) else (bnO (fn_Reader_isWord c0 2 S) fun p3 => if p3 = true then (bnO (fn_Reader_readAd c0 S) fun p21 => some (p21.1, p21.2)) else (bnO (fn_Reader_isWord c0 3 S) fun p5 => if p5 = true then (bnO (fn_Reader_readStory c0 S) fun p20 => some (p20.1, p20.2)) else (bnO (fn_Reader_isWord c0 4 S) fun p7 => if p7 = true then (bnO (fn_Reader_readStandby c0 S) fun p19 => some (p19.1, p19.2)) else (bnO (fn_Reader_isWord c0 5 S) fun p9 => if p9 = true then (bnO (fn_Reader_readClose c0 S) fun p18 => some (p18.1, p18.2)) else (bnO (fn_Reader_isWord c0 6 S) fun p11 => if p11 = true then (bnO (fn_Reader_readPut c0 S) fun p17 => some (p17.1, p17.2)) else (bnO (fn_Reader_isWord c0 7 S) fun p13 => if p13 = true then (bnO (fn_Reader_readLay c0 S) fun p16 => some (p16.1, p16.2)) else (bnO (fn_Reader_fail c0 1 S) fun p15 => some (p15.1, p15.2))))))))
theorem tf_Reader_readStatement {E : EV} {X : XT} {c0 : Nat} (hc0 : HC X 5 c0) {S : St} {q : Bool × St} (h : fn_Reader_readStatement c0 S = some q) : Ev E M_Reader_readStatement [.ref c0] (WX X S) 0 0 (KB X q.1 q.2) := by
  refine Ev.of pn_Reader rfl (leK rfl) ?_
  show Go E M_Reader_readStatement 0 0 0 [(0, .ref c0)] [] (WX X S) 0 0 (KB X q.1 q.2)
  unfold fn_Reader_readStatement at h
  refine g_aloadn (pc := 0) (i0 := 0) (j := 0) (dK D_Reader_readStatement_0 0 rfl) rfl rfl ?_
  refine g_ldcS (pc := 1) (j := 1) rfl (dK D_Reader_readStatement_0 1 rfl) (List.mem_of_getElem? (i := 1) rfl) ?_
  refine bnE h (fun p1 e_p1 h => ?_)
  refine vg_cV (pc := 3) (As := [.ref (XB + 1)]) (rest := []) (mc' := 0) (ms' := 0) (dK D_Reader_readStatement_0 2 rfl) K_Reader_50 (fitK rfl) (ltK rfl) hc0 rfl (leK rfl) (leK rfl) (leK rfl) (tf_Reader_isWord hc0 (ltK rfl) e_p1) (kcB ?_)
  refine vg_ifB_eq (pc := 6) (b := p1) (t := 14) (dK D_Reader_readStatement_0 3 rfl) rfl (fun hc2 => ?_) (fun hc2 => ?_)
  · replace h := ifP h hc2
    refine g_aloadn (pc := 9) (i0 := 0) (j := 0) (dK D_Reader_readStatement_0 4 rfl) rfl rfl ?_
    refine bnE h (fun p22 e_p22 h => ?_)
    refine vg_cV (pc := 10) (As := []) (rest := []) (mc' := 0) (ms' := 0) (dK D_Reader_readStatement_0 5 rfl) K_Reader_77 (fitK rfl) (ltK rfl) hc0 rfl (leK rfl) (leK rfl) (leK rfl) (tf_Reader_readColor hc0 e_p22) (kcB ?_)
    exact vg_iretB (pc := 13) (b := p22.1) (dK D_Reader_readStatement_0 6 rfl) rfl (leK rfl) (leK rfl) (fun _ => rfl) (by obtain rfl := Option.some.inj h; exact ⟨rfl, rfl⟩)
  · replace h := ifN h hc2
    refine g_aloadn (pc := 14) (i0 := 0) (j := 0) (dK D_Reader_readStatement_0 7 rfl) rfl rfl ?_
    refine g_ldcS (pc := 15) (j := 2) rfl (dK D_Reader_readStatement_0 8 rfl) (List.mem_of_getElem? (i := 2) rfl) ?_
    refine bnE h (fun p3 e_p3 h => ?_)
    refine vg_cV (pc := 17) (As := [.ref (XB + 2)]) (rest := []) (mc' := 0) (ms' := 0) (dK D_Reader_readStatement_0 9 rfl) K_Reader_50 (fitK rfl) (ltK rfl) hc0 rfl (leK rfl) (leK rfl) (leK rfl) (tf_Reader_isWord hc0 (ltK rfl) e_p3) (kcB ?_)
    refine vg_ifB_eq (pc := 20) (b := p3) (t := 28) (dK D_Reader_readStatement_0 10 rfl) rfl (fun hc4 => ?_) (fun hc4 => ?_)
    · replace h := ifP h hc4
      refine g_aloadn (pc := 23) (i0 := 0) (j := 0) (dK D_Reader_readStatement_0 11 rfl) rfl rfl ?_
      refine bnE h (fun p21 e_p21 h => ?_)
      refine vg_cV (pc := 24) (As := []) (rest := []) (mc' := 0) (ms' := 0) (dK D_Reader_readStatement_0 12 rfl) K_Reader_82 (fitK rfl) (ltK rfl) hc0 rfl (leK rfl) (leK rfl) (leK rfl) (tf_Reader_readAd hc0 e_p21) (kcB ?_)
      exact vg_iretB (pc := 27) (b := p21.1) (dK D_Reader_readStatement_0 13 rfl) rfl (leK rfl) (leK rfl) (fun _ => rfl) (by obtain rfl := Option.some.inj h; exact ⟨rfl, rfl⟩)
    · replace h := ifN h hc4
      refine g_aloadn (pc := 28) (i0 := 0) (j := 0) (dK D_Reader_readStatement_0 14 rfl) rfl rfl ?_
      refine g_ldcS (pc := 29) (j := 3) rfl (dK D_Reader_readStatement_0 15 rfl) (List.mem_of_getElem? (i := 3) rfl) ?_
      refine bnE h (fun p5 e_p5 h => ?_)
      refine vg_cV (pc := 31) (As := [.ref (XB + 3)]) (rest := []) (mc' := 0) (ms' := 0) (dK D_Reader_readStatement_0 16 rfl) K_Reader_50 (fitK rfl) (ltK rfl) hc0 rfl (leK rfl) (leK rfl) (leK rfl) (tf_Reader_isWord hc0 (ltK rfl) e_p5) (kcB ?_)
      refine vg_ifB_eq (pc := 34) (b := p5) (t := 42) (dK D_Reader_readStatement_0 17 rfl) rfl (fun hc6 => ?_) (fun hc6 => ?_)
      · replace h := ifP h hc6
        refine g_aloadn (pc := 37) (i0 := 0) (j := 0) (dK D_Reader_readStatement_0 18 rfl) rfl rfl ?_
        refine bnE h (fun p20 e_p20 h => ?_)
        refine vg_cV (pc := 38) (As := []) (rest := []) (mc' := 0) (ms' := 0) (dK D_Reader_readStatement_0 19 rfl) K_Reader_87 (fitK rfl) (ltK rfl) hc0 rfl (leK rfl) (leK rfl) (leK rfl) (tf_Reader_readStory hc0 e_p20) (kcB ?_)
        exact vg_iretB (pc := 41) (b := p20.1) (dK D_Reader_readStatement_0 20 rfl) rfl (leK rfl) (leK rfl) (fun _ => rfl) (by obtain rfl := Option.some.inj h; exact ⟨rfl, rfl⟩)
      · replace h := ifN h hc6
        refine g_aloadn (pc := 42) (i0 := 0) (j := 0) (dK D_Reader_readStatement_0 21 rfl) rfl rfl ?_
        refine g_ldcS (pc := 43) (j := 4) rfl (dK D_Reader_readStatement_0 22 rfl) (List.mem_of_getElem? (i := 4) rfl) ?_
        refine bnE h (fun p7 e_p7 h => ?_)
        refine vg_cV (pc := 45) (As := [.ref (XB + 4)]) (rest := []) (mc' := 0) (ms' := 0) (dK D_Reader_readStatement_0 23 rfl) K_Reader_50 (fitK rfl) (ltK rfl) hc0 rfl (leK rfl) (leK rfl) (leK rfl) (tf_Reader_isWord hc0 (ltK rfl) e_p7) (kcB ?_)
        refine vg_ifB_eq (pc := 48) (b := p7) (t := 56) (dK D_Reader_readStatement_0 24 rfl) rfl (fun hc8 => ?_) (fun hc8 => ?_)
        · replace h := ifP h hc8
          refine g_aloadn (pc := 51) (i0 := 0) (j := 0) (dK D_Reader_readStatement_0 25 rfl) rfl rfl ?_
          refine bnE h (fun p19 e_p19 h => ?_)
          refine vg_cV (pc := 52) (As := []) (rest := []) (mc' := 0) (ms' := 0) (dK D_Reader_readStatement_0 26 rfl) K_Reader_92 (fitK rfl) (ltK rfl) hc0 rfl (leK rfl) (leK rfl) (leK rfl) (tf_Reader_readStandby hc0 e_p19) (kcB ?_)
          exact vg_iretB (pc := 55) (b := p19.1) (dK D_Reader_readStatement_0 27 rfl) rfl (leK rfl) (leK rfl) (fun _ => rfl) (by obtain rfl := Option.some.inj h; exact ⟨rfl, rfl⟩)
        · replace h := ifN h hc8
          refine g_aloadn (pc := 56) (i0 := 0) (j := 0) (dK D_Reader_readStatement_0 28 rfl) rfl rfl ?_
          refine g_ldcS (pc := 57) (j := 5) rfl (dK D_Reader_readStatement_0 29 rfl) (List.mem_of_getElem? (i := 5) rfl) ?_
          refine bnE h (fun p9 e_p9 h => ?_)
          refine vg_cV (pc := 59) (As := [.ref (XB + 5)]) (rest := []) (mc' := 0) (ms' := 0) (dK D_Reader_readStatement_0 30 rfl) K_Reader_50 (fitK rfl) (ltK rfl) hc0 rfl (leK rfl) (leK rfl) (leK rfl) (tf_Reader_isWord hc0 (ltK rfl) e_p9) (kcB ?_)
          refine vg_ifB_eq (pc := 62) (b := p9) (t := 70) (dK D_Reader_readStatement_0 31 rfl) rfl (fun hc10 => ?_) (fun hc10 => ?_)
          · replace h := ifP h hc10
            refine g_aloadn (pc := 65) (i0 := 0) (j := 0) (dK D_Reader_readStatement_0 32 rfl) rfl rfl ?_
            refine bnE h (fun p18 e_p18 h => ?_)
            refine vg_cV (pc := 66) (As := []) (rest := []) (mc' := 0) (ms' := 0) (dK D_Reader_readStatement_0 33 rfl) K_Reader_97 (fitK rfl) (ltK rfl) hc0 rfl (leK rfl) (leK rfl) (leK rfl) (tf_Reader_readClose hc0 e_p18) (kcB ?_)
            exact vg_iretB (pc := 69) (b := p18.1) (dK D_Reader_readStatement_0 34 rfl) rfl (leK rfl) (leK rfl) (fun _ => rfl) (by obtain rfl := Option.some.inj h; exact ⟨rfl, rfl⟩)
          · replace h := ifN h hc10
            refine g_aloadn (pc := 70) (i0 := 0) (j := 0) (dK D_Reader_readStatement_0 35 rfl) rfl rfl ?_
            refine g_ldcS (pc := 71) (j := 6) rfl (dK D_Reader_readStatement_0 36 rfl) (List.mem_of_getElem? (i := 6) rfl) ?_
            refine bnE h (fun p11 e_p11 h => ?_)
            refine vg_cV (pc := 73) (As := [.ref (XB + 6)]) (rest := []) (mc' := 0) (ms' := 0) (dK D_Reader_readStatement_0 37 rfl) K_Reader_50 (fitK rfl) (ltK rfl) hc0 rfl (leK rfl) (leK rfl) (leK rfl) (tf_Reader_isWord hc0 (ltK rfl) e_p11) (kcB ?_)
            refine vg_ifB_eq (pc := 76) (b := p11) (t := 84) (dK D_Reader_readStatement_0 38 rfl) rfl (fun hc12 => ?_) (fun hc12 => ?_)
            · replace h := ifP h hc12
              refine g_aloadn (pc := 79) (i0 := 0) (j := 0) (dK D_Reader_readStatement_0 39 rfl) rfl rfl ?_
              refine bnE h (fun p17 e_p17 h => ?_)
              refine vg_cV (pc := 80) (As := []) (rest := []) (mc' := 0) (ms' := 0) (dK D_Reader_readStatement_0 40 rfl) K_Reader_102 (fitK rfl) (ltK rfl) hc0 rfl (leK rfl) (leK rfl) (leK rfl) (tf_Reader_readPut hc0 e_p17) (kcB ?_)
              exact vg_iretB (pc := 83) (b := p17.1) (dK D_Reader_readStatement_0 41 rfl) rfl (leK rfl) (leK rfl) (fun _ => rfl) (by obtain rfl := Option.some.inj h; exact ⟨rfl, rfl⟩)
            · replace h := ifN h hc12
              refine g_aloadn (pc := 84) (i0 := 0) (j := 0) (dK D_Reader_readStatement_0 42 rfl) rfl rfl ?_
              refine g_ldcS (pc := 85) (j := 7) rfl (dK D_Reader_readStatement_0 43 rfl) (List.mem_of_getElem? (i := 7) rfl) ?_
              refine bnE h (fun p13 e_p13 h => ?_)
              refine vg_cV (pc := 87) (As := [.ref (XB + 7)]) (rest := []) (mc' := 0) (ms' := 0) (dK D_Reader_readStatement_0 44 rfl) K_Reader_50 (fitK rfl) (ltK rfl) hc0 rfl (leK rfl) (leK rfl) (leK rfl) (tf_Reader_isWord hc0 (ltK rfl) e_p13) (kcB ?_)
              refine vg_ifB_eq (pc := 90) (b := p13) (t := 100) (dK D_Reader_readStatement_0 45 rfl) rfl (fun hc14 => ?_) (fun hc14 => ?_)
              · replace h := ifP h hc14
                refine g_aloadn (pc := 93) (i0 := 0) (j := 0) (dK D_Reader_readStatement_0 46 rfl) rfl rfl ?_
                refine bnE h (fun p16 e_p16 h => ?_)
                refine vg_cV (pc := 94) (As := []) (rest := []) (mc' := 0) (ms' := 0) (dK D_Reader_readStatement_0 47 rfl) K_Reader_107 (fitK rfl) (ltK rfl) hc0 rfl (leK rfl) (leK rfl) (leK rfl) (tf_Reader_readLay hc0 e_p16) (kcB ?_)
                refine g_goto (pc := 97) (tgt := 105) (dK D_Reader_readStatement_0 48 rfl) rfl ?_
                exact vg_iretB (pc := 105) (b := p16.1) (dK D_Reader_readStatement_1 2 rfl) rfl (leK rfl) (leK rfl) (fun _ => rfl) (by obtain rfl := Option.some.inj h; exact ⟨rfl, rfl⟩)
              · replace h := ifN h hc14
                refine g_aloadn (pc := 100) (i0 := 0) (j := 0) (dK D_Reader_readStatement_0 49 rfl) rfl rfl ?_
                refine vg_iconst (pc := 101) (dK D_Reader_readStatement_1 0 rfl) ?_
                refine bnE h (fun p15 e_p15 h => ?_)
                refine vg_cV (pc := 102) (As := [V 1]) (rest := []) (mc' := 0) (ms' := 0) (dK D_Reader_readStatement_1 1 rfl) K_Reader_68 (fitK rfl) (ltK rfl) hc0 rfl (leK rfl) (leK rfl) (leK rfl) (tf_Reader_fail hc0 (inRk rfl) e_p15) (kcB ?_)
                exact vg_iretB (pc := 105) (b := p15.1) (dK D_Reader_readStatement_1 2 rfl) rfl (leK rfl) (leK rfl) (fun _ => rfl) (by obtain rfl := Option.some.inj h; exact ⟨rfl, rfl⟩)
def lb_Reader_readText_55 (c0 : Nat) (go : Int × Int × St → Option ((Int × St) ⊕ (Int × St))) (a1 : Int) (a2 : Int) (S : St) : Option ((Int × St) ⊕ (Int × St)) := if 1600 < a2 then (some (.inr (a1, S))) else (if (g S c0 4) = 0 then (some (.inr (a1, S))) else (bnO (fn_Reader_readStatement c0 S) fun p8 => if p8.1 = true then (nm (wr (a1 + 1)) fun v10 => bnO (fn_Reader_nextToken c0 p8.2) fun p11 => nm (wr (a2 + 1)) fun v12 => go (v10, v12, p11)) else (some (.inl ((-1), p8.2)))))
def lo_Reader_readText_55 (c0 : Nat) : Nat → Int × Int × St → Option ((Int × St) ⊕ (Int × St)) := lp fun go p => lb_Reader_readText_55 c0 go p.1 p.2.1 p.2.2
theorem tl_Reader_readText_55 {E : EV} {X : XT} {c0 : Nat} (hc0 : HC X 5 c0) {K : RK → PS → Prop} {q : (Int × St) ⊕ (Int × St)} (hx : ∀ p, q = .inr p → inR p.1 → Go E M_Reader_readText 0 0 91 [(1, V p.1)] [] (WX X p.2) 0 0 K) (hr : ∀ p, q = .inl p → inR p.1 → K (.inl (some (V p.1))) (WX X p.2)) : ∀ n a, lo_Reader_readText_55 c0 n a = some q → inR a.1 → inR a.2.1 → Go E M_Reader_readText 0 0 55 [(0, .ref c0), (1, V a.1), (2, V a.2.1)] [] (WX X a.2.2) 0 0 K := by
  refine lp_ind (P := fun a : Int × Int × St => inR a.1 → inR a.2.1 → Go E M_Reader_readText 0 0 55 [(0, .ref c0), (1, V a.1), (2, V a.2.1)] [] (WX X a.2.2) 0 0 K) (fun go ih a h => ?_)
  obtain ⟨a1, a2, S⟩ := a
  intro ha1 ha2
  show Go E M_Reader_readText 0 0 55 [(0, .ref c0), (1, V a1), (2, V a2)] [] (WX X S) 0 0 K
  replace h : lb_Reader_readText_55 c0 go a1 a2 S = some q := h
  unfold lb_Reader_readText_55 at h
  refine g_iloadn (pc := 55) (i0 := 2) (j := 2) (dK D_Reader_readText 31 rfl) rfl rfl ?_
  refine vg_sipush (pc := 56) (dK D_Reader_readText 32 rfl) rfl ?_
  refine vg_icmp_gt (pc := 59) (t := 91) (dK D_Reader_readText 33 rfl) rfl ha2 (inRk rfl) (fun hc14 => ?_) (fun hc14 => ?_)
  · replace h := ifP h hc14
    refine gL_weak (ls' := [(1, V a1)]) (sbc 1 rfl sbn) ?_
    exact hx _ (Option.some.inj h).symm ha1
  · replace h := ifN h hc14
    refine g_aloadn (pc := 62) (i0 := 0) (j := 0) (dK D_Reader_readText 34 rfl) rfl rfl ?_
    refine vg_getI (pc := 63) (ci := 5) (f := 4) (dK D_Reader_readText 35 rfl) q_348 hc0 (ltK rfl) (ltK rfl) rfl ?_
    refine vg_if_eq (pc := 66) (t := 91) (dK D_Reader_readText 36 rfl) rfl (g_in _ _ _) (fun hc13 => ?_) (fun hc13 => ?_)
    · replace h := ifP h hc13
      refine gL_weak (ls' := [(1, V a1)]) (sbc 1 rfl sbn) ?_
      exact hx _ (Option.some.inj h).symm ha1
    · replace h := ifN h hc13
      refine g_aloadn (pc := 69) (i0 := 0) (j := 0) (dK D_Reader_readText 37 rfl) rfl rfl ?_
      refine bnE h (fun p8 e_p8 h => ?_)
      refine vg_cV (pc := 70) (As := []) (rest := []) (mc' := 0) (ms' := 0) (dK D_Reader_readText 38 rfl) K_Reader_61 (fitK rfl) (ltK rfl) hc0 rfl (leK rfl) (leK rfl) (leK rfl) (tf_Reader_readStatement hc0 e_p8) (kcB ?_)
      refine vg_ifB_ne (pc := 73) (b := p8.1) (t := 78) (dK D_Reader_readText 39 rfl) rfl (fun hc9 => ?_) (fun hc9 => ?_)
      · replace h := ifP h hc9
        refine nmE h (fun v10 e_v10 h => ?_)
        refine vg_iinc (pc := 78) (j := 1) (a := a1) (z := 1) (ls2 := [(1, V v10), (0, .ref c0), (2, V a2)]) (dK D_Reader_readText 42 rfl) rfl e_v10 (ltK rfl) rfl ?_
        refine g_aloadn (pc := 81) (i0 := 0) (j := 1) (dK D_Reader_readText 43 rfl) rfl rfl ?_
        refine bnE h (fun p11 e_p11 h => ?_)
        refine vg_cV (pc := 82) (As := []) (rest := []) (mc' := 0) (ms' := 0) (dK D_Reader_readText 44 rfl) K_Reader_45 (fitK rfl) (ltK rfl) hc0 rfl (leK rfl) (leK rfl) (leK rfl) (tf_Reader_nextToken hc0 e_p11) (kcU ?_)
        refine nmE h (fun v12 e_v12 h => ?_)
        refine vg_iinc (pc := 85) (j := 2) (a := a2) (z := 1) (ls2 := [(2, V v12), (1, V v10), (0, .ref c0)]) (dK D_Reader_readText 45 rfl) rfl e_v12 (ltK rfl) rfl ?_
        refine g_goto (pc := 88) (tgt := 55) (dK D_Reader_readText 46 rfl) rfl ?_
        refine gL_weak (ls' := [(0, .ref c0), (1, V v10), (2, V v12)]) (sbc 2 rfl (sbc 1 rfl (sbc 0 rfl sbn))) ?_
        replace h := ih _ h
        exact h (Vn_in e_v10) (Vn_in e_v12)
      · replace h := ifN h hc9
        refine vg_iconst (pc := 76) (dK D_Reader_readText 40 rfl) ?_
        exact vg_iretI (pc := 77) (r := (-1)) (dK D_Reader_readText 41 rfl) rfl (leK rfl) (leK rfl) (fun _ => rfl) (hr _ (Option.some.inj h).symm (inRk rfl))
def fn_Reader_readText (c0 : Nat) (S : St) : Option (Int × St) := nm (u S c0 6 0) fun S1 => nm (u S1 c0 7 (-1)) fun S2 => nm (u S2 c0 3 0) fun S3 => bnO (fn_Plan_begin (tgt c0 1) 1 16 S3) fun p4 => bnO (fn_Reader_nextToken c0 p4) fun p5 => bnO (fn_Reader_isWord c0 0 p5) fun p6 => if p6 = true then (bnO (fn_Reader_readPlan c0 p5) fun p17 => if p17.1 = true then (bnO (fn_Reader_nextToken c0 p17.2) fun p19 => bnS (lo_Reader_readText_55 c0 FU (0, 0, p19)) (fun p21 => some (p21.1, p21.2)) fun p20 => some (p20.1, p20.2)) else (some ((-1), p17.2))) else (bnS (lo_Reader_readText_55 c0 FU (0, 0, p5)) (fun p16 => some (p16.1, p16.2)) fun p15 => some (p15.1, p15.2))
theorem tf_Reader_readText {E : EV} {X : XT} {c0 : Nat} (hc0 : HC X 5 c0) {S : St} {q : Int × St} (h : fn_Reader_readText c0 S = some q) : Ev E M_Reader_readText [.ref c0] (WX X S) 0 0 (KI X q.1 q.2) := by
  refine Ev.of pn_Reader rfl (leK rfl) ?_
  show Go E M_Reader_readText 0 0 0 [(0, .ref c0)] [] (WX X S) 0 0 (KI X q.1 q.2)
  unfold fn_Reader_readText at h
  refine g_aloadn (pc := 0) (i0 := 0) (j := 0) (dK D_Reader_readText 0 rfl) rfl rfl ?_
  refine vg_iconst (pc := 1) (dK D_Reader_readText 1 rfl) ?_
  refine nmE h (fun S1 e_S1 h => ?_)
  refine vg_putI (pc := 2) (ci := 5) (f := 6) (z := 0) (dK D_Reader_readText 2 rfl) q_350 hc0 (ltK rfl) (ltK rfl) rfl rfl e_S1 ?_
  refine g_aloadn (pc := 5) (i0 := 0) (j := 0) (dK D_Reader_readText 3 rfl) rfl rfl ?_
  refine vg_iconst (pc := 6) (dK D_Reader_readText 4 rfl) ?_
  refine nmE h (fun S2 e_S2 h => ?_)
  refine vg_putI (pc := 7) (ci := 5) (f := 7) (z := (-1)) (dK D_Reader_readText 5 rfl) q_352 hc0 (ltK rfl) (ltK rfl) rfl rfl e_S2 ?_
  refine g_aloadn (pc := 10) (i0 := 0) (j := 0) (dK D_Reader_readText 6 rfl) rfl rfl ?_
  refine vg_iconst (pc := 11) (dK D_Reader_readText 7 rfl) ?_
  refine nmE h (fun S3 e_S3 h => ?_)
  refine vg_putI (pc := 12) (ci := 5) (f := 3) (z := 0) (dK D_Reader_readText 8 rfl) q_347 hc0 (ltK rfl) (ltK rfl) rfl rfl e_S3 ?_
  refine g_aloadn (pc := 15) (i0 := 0) (j := 0) (dK D_Reader_readText 9 rfl) rfl rfl ?_
  refine vg_getO (pc := 16) (ci := 5) (f := 1) (dK D_Reader_readText 10 rfl) q_344 hc0 (ltK rfl) (ltK rfl) rfl ?_
  refine vg_iconst (pc := 19) (dK D_Reader_readText 11 rfl) ?_
  refine vg_bipush (pc := 20) (dK D_Reader_readText 12 rfl) rfl ?_
  refine bnE h (fun p4 e_p4 h => ?_)
  refine vg_cV (pc := 22) (As := [V 1, V 16]) (rest := []) (mc' := 0) (ms' := 0) (dK D_Reader_readText 13 rfl) K_Reader_41 (fitK rfl) (ltK rfl) (hw_5_1 hc0) rfl (leK rfl) (leK rfl) (leK rfl) (tf_Plan_begin (hw_5_1 hc0) (inRk rfl) (inRk rfl) e_p4) (kcU ?_)
  refine g_aloadn (pc := 25) (i0 := 0) (j := 0) (dK D_Reader_readText 14 rfl) rfl rfl ?_
  refine bnE h (fun p5 e_p5 h => ?_)
  refine vg_cV (pc := 26) (As := []) (rest := []) (mc' := 0) (ms' := 0) (dK D_Reader_readText 15 rfl) K_Reader_45 (fitK rfl) (ltK rfl) hc0 rfl (leK rfl) (leK rfl) (leK rfl) (tf_Reader_nextToken hc0 e_p5) (kcU ?_)
  refine g_aloadn (pc := 29) (i0 := 0) (j := 0) (dK D_Reader_readText 16 rfl) rfl rfl ?_
  refine g_ldcS (pc := 30) (j := 0) rfl (dK D_Reader_readText 17 rfl) (List.mem_of_getElem? (i := 0) rfl) ?_
  refine bnE h (fun p6 e_p6 h => ?_)
  refine vg_cV (pc := 32) (As := [.ref (XB + 0)]) (rest := []) (mc' := 0) (ms' := 0) (dK D_Reader_readText 18 rfl) K_Reader_50 (fitK rfl) (ltK rfl) hc0 rfl (leK rfl) (leK rfl) (leK rfl) (tf_Reader_isWord hc0 (ltK rfl) e_p6) (kcB ?_)
  refine vg_ifB_eq (pc := 35) (b := p6) (t := 51) (dK D_Reader_readText 19 rfl) rfl (fun hc7 => ?_) (fun hc7 => ?_)
  · replace h := ifP h hc7
    refine g_aloadn (pc := 38) (i0 := 0) (j := 0) (dK D_Reader_readText 20 rfl) rfl rfl ?_
    refine bnE h (fun p17 e_p17 h => ?_)
    refine vg_cV (pc := 39) (As := []) (rest := []) (mc' := 0) (ms' := 0) (dK D_Reader_readText 21 rfl) K_Reader_54 (fitK rfl) (ltK rfl) hc0 rfl (leK rfl) (leK rfl) (leK rfl) (tf_Reader_readPlan hc0 e_p17) (kcB ?_)
    refine vg_ifB_ne (pc := 42) (b := p17.1) (t := 47) (dK D_Reader_readText 22 rfl) rfl (fun hc18 => ?_) (fun hc18 => ?_)
    · replace h := ifP h hc18
      refine g_aloadn (pc := 47) (i0 := 0) (j := 0) (dK D_Reader_readText 25 rfl) rfl rfl ?_
      refine bnE h (fun p19 e_p19 h => ?_)
      refine vg_cV (pc := 48) (As := []) (rest := []) (mc' := 0) (ms' := 0) (dK D_Reader_readText 26 rfl) K_Reader_45 (fitK rfl) (ltK rfl) hc0 rfl (leK rfl) (leK rfl) (leK rfl) (tf_Reader_nextToken hc0 e_p19) (kcU ?_)
      refine vg_iconst (pc := 51) (dK D_Reader_readText 27 rfl) ?_
      refine g_istoren (pc := 52) (i0 := 1) (ls2 := [(1, V 0), (0, .ref c0)]) (dK D_Reader_readText 28 rfl) rfl (ltK rfl) rfl ?_
      refine vg_iconst (pc := 53) (dK D_Reader_readText 29 rfl) ?_
      refine g_istoren (pc := 54) (i0 := 2) (ls2 := [(2, V 0), (1, V 0), (0, .ref c0)]) (dK D_Reader_readText 30 rfl) rfl (ltK rfl) rfl ?_
      refine bnSE h (fun p21 e_p21 h => ?_) (fun p20 e_p20 h => ?_)
      · refine gL_weak (ls' := [(0, .ref c0), (1, V 0), (2, V 0)]) (sbc 2 rfl (sbc 1 rfl (sbc 0 rfl sbn))) ?_
        refine tl_Reader_readText_55 hc0 (fun _ e => slr e) (fun p e hr_p21 => ?_) FU (0, 0, p19) e_p21 (inRk rfl) (inRk rfl)
        have e := Sum.inl.inj e
        subst e
        exact (by obtain rfl := Option.some.inj h; exact ⟨rfl, hr_p21, rfl⟩)
      · refine gL_weak (ls' := [(0, .ref c0), (1, V 0), (2, V 0)]) (sbc 2 rfl (sbc 1 rfl (sbc 0 rfl sbn))) ?_
        refine tl_Reader_readText_55 hc0 (fun p e hx1_p20 => ?_) (fun _ e => srl e) FU (0, 0, p19) e_p20 (inRk rfl) (inRk rfl)
        have e := Sum.inr.inj e
        subst e
        refine g_iloadn (pc := 91) (i0 := 1) (j := 0) (dK D_Reader_readText 47 rfl) rfl rfl ?_
        exact vg_iretI (pc := 92) (r := p20.1) (dK D_Reader_readText 48 rfl) rfl (leK rfl) (leK rfl) (fun _ => rfl) (by obtain rfl := Option.some.inj h; exact ⟨rfl, hx1_p20, rfl⟩)
    · replace h := ifN h hc18
      refine vg_iconst (pc := 45) (dK D_Reader_readText 23 rfl) ?_
      exact vg_iretI (pc := 46) (r := (-1)) (dK D_Reader_readText 24 rfl) rfl (leK rfl) (leK rfl) (fun _ => rfl) (by obtain rfl := Option.some.inj h; exact ⟨rfl, (inRk rfl), rfl⟩)
  · replace h := ifN h hc7
    refine vg_iconst (pc := 51) (dK D_Reader_readText 27 rfl) ?_
    refine g_istoren (pc := 52) (i0 := 1) (ls2 := [(1, V 0), (0, .ref c0)]) (dK D_Reader_readText 28 rfl) rfl (ltK rfl) rfl ?_
    refine vg_iconst (pc := 53) (dK D_Reader_readText 29 rfl) ?_
    refine g_istoren (pc := 54) (i0 := 2) (ls2 := [(2, V 0), (1, V 0), (0, .ref c0)]) (dK D_Reader_readText 30 rfl) rfl (ltK rfl) rfl ?_
    refine bnSE h (fun p16 e_p16 h => ?_) (fun p15 e_p15 h => ?_)
    · refine gL_weak (ls' := [(0, .ref c0), (1, V 0), (2, V 0)]) (sbc 2 rfl (sbc 1 rfl (sbc 0 rfl sbn))) ?_
      refine tl_Reader_readText_55 hc0 (fun _ e => slr e) (fun p e hr_p16 => ?_) FU (0, 0, p5) e_p16 (inRk rfl) (inRk rfl)
      have e := Sum.inl.inj e
      subst e
      exact (by obtain rfl := Option.some.inj h; exact ⟨rfl, hr_p16, rfl⟩)
    · refine gL_weak (ls' := [(0, .ref c0), (1, V 0), (2, V 0)]) (sbc 2 rfl (sbc 1 rfl (sbc 0 rfl sbn))) ?_
      refine tl_Reader_readText_55 hc0 (fun p e hx1_p15 => ?_) (fun _ e => srl e) FU (0, 0, p5) e_p15 (inRk rfl) (inRk rfl)
      have e := Sum.inr.inj e
      subst e
      refine g_iloadn (pc := 91) (i0 := 1) (j := 0) (dK D_Reader_readText 47 rfl) rfl rfl ?_
      exact vg_iretI (pc := 92) (r := p15.1) (dK D_Reader_readText 48 rfl) rfl (leK rfl) (leK rfl) (fun _ => rfl) (by obtain rfl := Option.some.inj h; exact ⟨rfl, hx1_p15, rfl⟩)
def fn_Ads_copyFrom (c0 : Nat) (c1 : Nat) (S : St) : Option (St) := nm (cpI S (tgt c1 0) (tgt c0 0) 40) fun S1 => nm (cpI S1 (tgt c1 1) (tgt c0 1) 40) fun S2 => nm (cpI S2 (tgt c1 2) (tgt c0 2) 40) fun S3 => nm (cpI S3 (tgt c1 3) (tgt c0 3) 40) fun S4 => nm (cpI S4 (tgt c1 4) (tgt c0 4) 40) fun S5 => nm (cpI S5 (tgt c1 5) (tgt c0 5) 40) fun S6 => nm (cpI S6 (tgt c1 6) (tgt c0 6) 40) fun S7 => nm (u S7 c0 7 (g S7 c1 7)) fun S8 => some S8
theorem tf_Ads_copyFrom {E : EV} {X : XT} {c0 : Nat} (hc0 : HC X 0 c0) {c1 : Nat} (hc1 : HC X 0 c1) {S : St} {q : St} (h : fn_Ads_copyFrom c0 c1 S = some q) : Ev E M_Ads_copyFrom [.ref c0, .ref c1] (WX X S) 0 0 (KU X q) := by
  refine Ev.of pn_Ads rfl (leK rfl) ?_
  show Go E M_Ads_copyFrom 0 0 0 [(0, .ref c0), (1, .ref c1)] [] (WX X S) 0 0 (KU X q)
  unfold fn_Ads_copyFrom at h
  refine g_aloadn (pc := 0) (i0 := 1) (j := 1) (dK D_Ads_copyFrom_0 0 rfl) rfl rfl ?_
  refine vg_getA (pc := 1) (ci := 0) (f := 0) (dK D_Ads_copyFrom_0 1 rfl) q_87 hc1 (ltK rfl) (ltK rfl) rfl ?_
  refine vg_iconst (pc := 4) (dK D_Ads_copyFrom_0 2 rfl) ?_
  refine g_aloadn (pc := 5) (i0 := 0) (j := 0) (dK D_Ads_copyFrom_0 3 rfl) rfl rfl ?_
  refine vg_getA (pc := 6) (ci := 0) (f := 0) (dK D_Ads_copyFrom_0 4 rfl) q_87 hc0 (ltK rfl) (ltK rfl) rfl ?_
  refine vg_iconst (pc := 9) (dK D_Ads_copyFrom_0 5 rfl) ?_
  refine vg_bipush (pc := 10) (dK D_Ads_copyFrom_0 6 rfl) rfl ?_
  refine nmE h (fun S1 e_S1 h => ?_)
  refine vg_copy (pc := 12) (N := 40) (dK D_Ads_copyFrom_0 7 rfl) q_653 (leK rfl) (leK rfl) rfl (hw_0_0 hc1) (hw_0_0 hc0) e_S1 ?_
  refine g_aloadn (pc := 15) (i0 := 1) (j := 1) (dK D_Ads_copyFrom_0 8 rfl) rfl rfl ?_
  refine vg_getA (pc := 16) (ci := 0) (f := 1) (dK D_Ads_copyFrom_0 9 rfl) q_91 hc1 (ltK rfl) (ltK rfl) rfl ?_
  refine vg_iconst (pc := 19) (dK D_Ads_copyFrom_0 10 rfl) ?_
  refine g_aloadn (pc := 20) (i0 := 0) (j := 0) (dK D_Ads_copyFrom_0 11 rfl) rfl rfl ?_
  refine vg_getA (pc := 21) (ci := 0) (f := 1) (dK D_Ads_copyFrom_0 12 rfl) q_91 hc0 (ltK rfl) (ltK rfl) rfl ?_
  refine vg_iconst (pc := 24) (dK D_Ads_copyFrom_0 13 rfl) ?_
  refine vg_bipush (pc := 25) (dK D_Ads_copyFrom_0 14 rfl) rfl ?_
  refine nmE h (fun S2 e_S2 h => ?_)
  refine vg_copy (pc := 27) (N := 40) (dK D_Ads_copyFrom_0 15 rfl) q_653 (leK rfl) (leK rfl) rfl (hw_0_1 hc1) (hw_0_1 hc0) e_S2 ?_
  refine g_aloadn (pc := 30) (i0 := 1) (j := 1) (dK D_Ads_copyFrom_0 16 rfl) rfl rfl ?_
  refine vg_getA (pc := 31) (ci := 0) (f := 2) (dK D_Ads_copyFrom_0 17 rfl) q_94 hc1 (ltK rfl) (ltK rfl) rfl ?_
  refine vg_iconst (pc := 34) (dK D_Ads_copyFrom_0 18 rfl) ?_
  refine g_aloadn (pc := 35) (i0 := 0) (j := 0) (dK D_Ads_copyFrom_0 19 rfl) rfl rfl ?_
  refine vg_getA (pc := 36) (ci := 0) (f := 2) (dK D_Ads_copyFrom_0 20 rfl) q_94 hc0 (ltK rfl) (ltK rfl) rfl ?_
  refine vg_iconst (pc := 39) (dK D_Ads_copyFrom_0 21 rfl) ?_
  refine vg_bipush (pc := 40) (dK D_Ads_copyFrom_0 22 rfl) rfl ?_
  refine nmE h (fun S3 e_S3 h => ?_)
  refine vg_copy (pc := 42) (N := 40) (dK D_Ads_copyFrom_0 23 rfl) q_653 (leK rfl) (leK rfl) rfl (hw_0_2 hc1) (hw_0_2 hc0) e_S3 ?_
  refine g_aloadn (pc := 45) (i0 := 1) (j := 1) (dK D_Ads_copyFrom_0 24 rfl) rfl rfl ?_
  refine vg_getA (pc := 46) (ci := 0) (f := 3) (dK D_Ads_copyFrom_0 25 rfl) q_99 hc1 (ltK rfl) (ltK rfl) rfl ?_
  refine vg_iconst (pc := 49) (dK D_Ads_copyFrom_0 26 rfl) ?_
  refine g_aloadn (pc := 50) (i0 := 0) (j := 0) (dK D_Ads_copyFrom_0 27 rfl) rfl rfl ?_
  refine vg_getA (pc := 51) (ci := 0) (f := 3) (dK D_Ads_copyFrom_0 28 rfl) q_99 hc0 (ltK rfl) (ltK rfl) rfl ?_
  refine vg_iconst (pc := 54) (dK D_Ads_copyFrom_0 29 rfl) ?_
  refine vg_bipush (pc := 55) (dK D_Ads_copyFrom_0 30 rfl) rfl ?_
  refine nmE h (fun S4 e_S4 h => ?_)
  refine vg_copy (pc := 57) (N := 40) (dK D_Ads_copyFrom_0 31 rfl) q_653 (leK rfl) (leK rfl) rfl (hw_0_3 hc1) (hw_0_3 hc0) e_S4 ?_
  refine g_aloadn (pc := 60) (i0 := 1) (j := 1) (dK D_Ads_copyFrom_0 32 rfl) rfl rfl ?_
  refine vg_getA (pc := 61) (ci := 0) (f := 4) (dK D_Ads_copyFrom_0 33 rfl) q_103 hc1 (ltK rfl) (ltK rfl) rfl ?_
  refine vg_iconst (pc := 64) (dK D_Ads_copyFrom_0 34 rfl) ?_
  refine g_aloadn (pc := 65) (i0 := 0) (j := 0) (dK D_Ads_copyFrom_0 35 rfl) rfl rfl ?_
  refine vg_getA (pc := 66) (ci := 0) (f := 4) (dK D_Ads_copyFrom_0 36 rfl) q_103 hc0 (ltK rfl) (ltK rfl) rfl ?_
  refine vg_iconst (pc := 69) (dK D_Ads_copyFrom_0 37 rfl) ?_
  refine vg_bipush (pc := 70) (dK D_Ads_copyFrom_0 38 rfl) rfl ?_
  refine nmE h (fun S5 e_S5 h => ?_)
  refine vg_copy (pc := 72) (N := 40) (dK D_Ads_copyFrom_0 39 rfl) q_653 (leK rfl) (leK rfl) rfl (hw_0_4 hc1) (hw_0_4 hc0) e_S5 ?_
  refine g_aloadn (pc := 75) (i0 := 1) (j := 1) (dK D_Ads_copyFrom_0 40 rfl) rfl rfl ?_
  refine vg_getA (pc := 76) (ci := 0) (f := 5) (dK D_Ads_copyFrom_0 41 rfl) q_107 hc1 (ltK rfl) (ltK rfl) rfl ?_
  refine vg_iconst (pc := 79) (dK D_Ads_copyFrom_0 42 rfl) ?_
  refine g_aloadn (pc := 80) (i0 := 0) (j := 0) (dK D_Ads_copyFrom_0 43 rfl) rfl rfl ?_
  refine vg_getA (pc := 81) (ci := 0) (f := 5) (dK D_Ads_copyFrom_0 44 rfl) q_107 hc0 (ltK rfl) (ltK rfl) rfl ?_
  refine vg_iconst (pc := 84) (dK D_Ads_copyFrom_0 45 rfl) ?_
  refine vg_bipush (pc := 85) (dK D_Ads_copyFrom_0 46 rfl) rfl ?_
  refine nmE h (fun S6 e_S6 h => ?_)
  refine vg_copy (pc := 87) (N := 40) (dK D_Ads_copyFrom_0 47 rfl) q_653 (leK rfl) (leK rfl) rfl (hw_0_5 hc1) (hw_0_5 hc0) e_S6 ?_
  refine g_aloadn (pc := 90) (i0 := 1) (j := 1) (dK D_Ads_copyFrom_0 48 rfl) rfl rfl ?_
  refine vg_getA (pc := 91) (ci := 0) (f := 6) (dK D_Ads_copyFrom_0 49 rfl) q_111 hc1 (ltK rfl) (ltK rfl) rfl ?_
  refine vg_iconst (pc := 94) (dK D_Ads_copyFrom_1 0 rfl) ?_
  refine g_aloadn (pc := 95) (i0 := 0) (j := 0) (dK D_Ads_copyFrom_1 1 rfl) rfl rfl ?_
  refine vg_getA (pc := 96) (ci := 0) (f := 6) (dK D_Ads_copyFrom_1 2 rfl) q_111 hc0 (ltK rfl) (ltK rfl) rfl ?_
  refine vg_iconst (pc := 99) (dK D_Ads_copyFrom_1 3 rfl) ?_
  refine vg_bipush (pc := 100) (dK D_Ads_copyFrom_1 4 rfl) rfl ?_
  refine nmE h (fun S7 e_S7 h => ?_)
  refine vg_copy (pc := 102) (N := 40) (dK D_Ads_copyFrom_1 5 rfl) q_653 (leK rfl) (leK rfl) rfl (hw_0_6 hc1) (hw_0_6 hc0) e_S7 ?_
  refine g_aloadn (pc := 105) (i0 := 0) (j := 0) (dK D_Ads_copyFrom_1 6 rfl) rfl rfl ?_
  refine g_aloadn (pc := 106) (i0 := 1) (j := 1) (dK D_Ads_copyFrom_1 7 rfl) rfl rfl ?_
  refine vg_getI (pc := 107) (ci := 0) (f := 7) (dK D_Ads_copyFrom_1 8 rfl) q_116 hc1 (ltK rfl) (ltK rfl) rfl ?_
  refine nmE h (fun S8 e_S8 h => ?_)
  refine vg_putI (pc := 110) (ci := 0) (f := 7) (z := (g S7 c1 7)) (dK D_Ads_copyFrom_1 9 rfl) q_116 hc0 (ltK rfl) (ltK rfl) rfl rfl e_S8 ?_
  exact g_return (pc := 113) (dK D_Ads_copyFrom_1 10 rfl) rfl (leK rfl) (leK rfl) (fun _ => rfl) (by obtain rfl := Option.some.inj h; exact ⟨rfl, rfl⟩)
def fn_Stories_copyFrom (c0 : Nat) (c1 : Nat) (S : St) : Option (St) := nm (cpI S (tgt c1 0) (tgt c0 0) 10) fun S1 => nm (cpI S1 (tgt c1 1) (tgt c0 1) 10) fun S2 => nm (cpI S2 (tgt c1 2) (tgt c0 2) 10) fun S3 => nm (cpI S3 (tgt c1 3) (tgt c0 3) 10) fun S4 => nm (cpI S4 (tgt c1 4) (tgt c0 4) 10) fun S5 => nm (u S5 c0 5 (g S5 c1 5)) fun S6 => some S6
theorem tf_Stories_copyFrom {E : EV} {X : XT} {c0 : Nat} (hc0 : HC X 9 c0) {c1 : Nat} (hc1 : HC X 9 c1) {S : St} {q : St} (h : fn_Stories_copyFrom c0 c1 S = some q) : Ev E M_Stories_copyFrom [.ref c0, .ref c1] (WX X S) 0 0 (KU X q) := by
  refine Ev.of pn_Stories rfl (leK rfl) ?_
  show Go E M_Stories_copyFrom 0 0 0 [(0, .ref c0), (1, .ref c1)] [] (WX X S) 0 0 (KU X q)
  unfold fn_Stories_copyFrom at h
  refine g_aloadn (pc := 0) (i0 := 1) (j := 1) (dK D_Stories_copyFrom 0 rfl) rfl rfl ?_
  refine vg_getA (pc := 1) (ci := 9) (f := 0) (dK D_Stories_copyFrom 1 rfl) q_144 hc1 (ltK rfl) (ltK rfl) rfl ?_
  refine vg_iconst (pc := 4) (dK D_Stories_copyFrom 2 rfl) ?_
  refine g_aloadn (pc := 5) (i0 := 0) (j := 0) (dK D_Stories_copyFrom 3 rfl) rfl rfl ?_
  refine vg_getA (pc := 6) (ci := 9) (f := 0) (dK D_Stories_copyFrom 4 rfl) q_144 hc0 (ltK rfl) (ltK rfl) rfl ?_
  refine vg_iconst (pc := 9) (dK D_Stories_copyFrom 5 rfl) ?_
  refine vg_bipush (pc := 10) (dK D_Stories_copyFrom 6 rfl) rfl ?_
  refine nmE h (fun S1 e_S1 h => ?_)
  refine vg_copy (pc := 12) (N := 10) (dK D_Stories_copyFrom 7 rfl) q_660 (leK rfl) (leK rfl) rfl (hw_9_0 hc1) (hw_9_0 hc0) e_S1 ?_
  refine g_aloadn (pc := 15) (i0 := 1) (j := 1) (dK D_Stories_copyFrom 8 rfl) rfl rfl ?_
  refine vg_getA (pc := 16) (ci := 9) (f := 1) (dK D_Stories_copyFrom 9 rfl) q_148 hc1 (ltK rfl) (ltK rfl) rfl ?_
  refine vg_iconst (pc := 19) (dK D_Stories_copyFrom 10 rfl) ?_
  refine g_aloadn (pc := 20) (i0 := 0) (j := 0) (dK D_Stories_copyFrom 11 rfl) rfl rfl ?_
  refine vg_getA (pc := 21) (ci := 9) (f := 1) (dK D_Stories_copyFrom 12 rfl) q_148 hc0 (ltK rfl) (ltK rfl) rfl ?_
  refine vg_iconst (pc := 24) (dK D_Stories_copyFrom 13 rfl) ?_
  refine vg_bipush (pc := 25) (dK D_Stories_copyFrom 14 rfl) rfl ?_
  refine nmE h (fun S2 e_S2 h => ?_)
  refine vg_copy (pc := 27) (N := 10) (dK D_Stories_copyFrom 15 rfl) q_660 (leK rfl) (leK rfl) rfl (hw_9_1 hc1) (hw_9_1 hc0) e_S2 ?_
  refine g_aloadn (pc := 30) (i0 := 1) (j := 1) (dK D_Stories_copyFrom 16 rfl) rfl rfl ?_
  refine vg_getA (pc := 31) (ci := 9) (f := 2) (dK D_Stories_copyFrom 17 rfl) q_152 hc1 (ltK rfl) (ltK rfl) rfl ?_
  refine vg_iconst (pc := 34) (dK D_Stories_copyFrom 18 rfl) ?_
  refine g_aloadn (pc := 35) (i0 := 0) (j := 0) (dK D_Stories_copyFrom 19 rfl) rfl rfl ?_
  refine vg_getA (pc := 36) (ci := 9) (f := 2) (dK D_Stories_copyFrom 20 rfl) q_152 hc0 (ltK rfl) (ltK rfl) rfl ?_
  refine vg_iconst (pc := 39) (dK D_Stories_copyFrom 21 rfl) ?_
  refine vg_bipush (pc := 40) (dK D_Stories_copyFrom 22 rfl) rfl ?_
  refine nmE h (fun S3 e_S3 h => ?_)
  refine vg_copy (pc := 42) (N := 10) (dK D_Stories_copyFrom 23 rfl) q_660 (leK rfl) (leK rfl) rfl (hw_9_2 hc1) (hw_9_2 hc0) e_S3 ?_
  refine g_aloadn (pc := 45) (i0 := 1) (j := 1) (dK D_Stories_copyFrom 24 rfl) rfl rfl ?_
  refine vg_getA (pc := 46) (ci := 9) (f := 3) (dK D_Stories_copyFrom 25 rfl) q_155 hc1 (ltK rfl) (ltK rfl) rfl ?_
  refine vg_iconst (pc := 49) (dK D_Stories_copyFrom 26 rfl) ?_
  refine g_aloadn (pc := 50) (i0 := 0) (j := 0) (dK D_Stories_copyFrom 27 rfl) rfl rfl ?_
  refine vg_getA (pc := 51) (ci := 9) (f := 3) (dK D_Stories_copyFrom 28 rfl) q_155 hc0 (ltK rfl) (ltK rfl) rfl ?_
  refine vg_iconst (pc := 54) (dK D_Stories_copyFrom 29 rfl) ?_
  refine vg_bipush (pc := 55) (dK D_Stories_copyFrom 30 rfl) rfl ?_
  refine nmE h (fun S4 e_S4 h => ?_)
  refine vg_copy (pc := 57) (N := 10) (dK D_Stories_copyFrom 31 rfl) q_660 (leK rfl) (leK rfl) rfl (hw_9_3 hc1) (hw_9_3 hc0) e_S4 ?_
  refine g_aloadn (pc := 60) (i0 := 1) (j := 1) (dK D_Stories_copyFrom 32 rfl) rfl rfl ?_
  refine vg_getA (pc := 61) (ci := 9) (f := 4) (dK D_Stories_copyFrom 33 rfl) q_159 hc1 (ltK rfl) (ltK rfl) rfl ?_
  refine vg_iconst (pc := 64) (dK D_Stories_copyFrom 34 rfl) ?_
  refine g_aloadn (pc := 65) (i0 := 0) (j := 0) (dK D_Stories_copyFrom 35 rfl) rfl rfl ?_
  refine vg_getA (pc := 66) (ci := 9) (f := 4) (dK D_Stories_copyFrom 36 rfl) q_159 hc0 (ltK rfl) (ltK rfl) rfl ?_
  refine vg_iconst (pc := 69) (dK D_Stories_copyFrom 37 rfl) ?_
  refine vg_bipush (pc := 70) (dK D_Stories_copyFrom 38 rfl) rfl ?_
  refine nmE h (fun S5 e_S5 h => ?_)
  refine vg_copy (pc := 72) (N := 10) (dK D_Stories_copyFrom 39 rfl) q_660 (leK rfl) (leK rfl) rfl (hw_9_4 hc1) (hw_9_4 hc0) e_S5 ?_
  refine g_aloadn (pc := 75) (i0 := 0) (j := 0) (dK D_Stories_copyFrom 40 rfl) rfl rfl ?_
  refine g_aloadn (pc := 76) (i0 := 1) (j := 1) (dK D_Stories_copyFrom 41 rfl) rfl rfl ?_
  refine vg_getI (pc := 77) (ci := 9) (f := 5) (dK D_Stories_copyFrom 42 rfl) q_164 hc1 (ltK rfl) (ltK rfl) rfl ?_
  refine nmE h (fun S6 e_S6 h => ?_)
  refine vg_putI (pc := 80) (ci := 9) (f := 5) (z := (g S5 c1 5)) (dK D_Stories_copyFrom 43 rfl) q_164 hc0 (ltK rfl) (ltK rfl) rfl rfl e_S6 ?_
  exact g_return (pc := 83) (dK D_Stories_copyFrom 44 rfl) rfl (leK rfl) (leK rfl) (fun _ => rfl) (by obtain rfl := Option.some.inj h; exact ⟨rfl, rfl⟩)
def fn_Standbys_copyFrom (c0 : Nat) (c1 : Nat) (S : St) : Option (St) := nm (cpI S (tgt c1 0) (tgt c0 0) 8) fun S1 => nm (cpI S1 (tgt c1 1) (tgt c0 1) 8) fun S2 => nm (u S2 c0 2 (g S2 c1 2)) fun S3 => some S3
theorem tf_Standbys_copyFrom {E : EV} {X : XT} {c0 : Nat} (hc0 : HC X 7 c0) {c1 : Nat} (hc1 : HC X 7 c1) {S : St} {q : St} (h : fn_Standbys_copyFrom c0 c1 S = some q) : Ev E M_Standbys_copyFrom [.ref c0, .ref c1] (WX X S) 0 0 (KU X q) := by
  refine Ev.of pn_Standbys rfl (leK rfl) ?_
  show Go E M_Standbys_copyFrom 0 0 0 [(0, .ref c0), (1, .ref c1)] [] (WX X S) 0 0 (KU X q)
  unfold fn_Standbys_copyFrom at h
  refine g_aloadn (pc := 0) (i0 := 1) (j := 1) (dK D_Standbys_copyFrom 0 rfl) rfl rfl ?_
  refine vg_getA (pc := 1) (ci := 7) (f := 0) (dK D_Standbys_copyFrom 1 rfl) q_188 hc1 (ltK rfl) (ltK rfl) rfl ?_
  refine vg_iconst (pc := 4) (dK D_Standbys_copyFrom 2 rfl) ?_
  refine g_aloadn (pc := 5) (i0 := 0) (j := 0) (dK D_Standbys_copyFrom 3 rfl) rfl rfl ?_
  refine vg_getA (pc := 6) (ci := 7) (f := 0) (dK D_Standbys_copyFrom 4 rfl) q_188 hc0 (ltK rfl) (ltK rfl) rfl ?_
  refine vg_iconst (pc := 9) (dK D_Standbys_copyFrom 5 rfl) ?_
  refine vg_bipush (pc := 10) (dK D_Standbys_copyFrom 6 rfl) rfl ?_
  refine nmE h (fun S1 e_S1 h => ?_)
  refine vg_copy (pc := 12) (N := 8) (dK D_Standbys_copyFrom 7 rfl) q_665 (leK rfl) (leK rfl) rfl (hw_7_0 hc1) (hw_7_0 hc0) e_S1 ?_
  refine g_aloadn (pc := 15) (i0 := 1) (j := 1) (dK D_Standbys_copyFrom 8 rfl) rfl rfl ?_
  refine vg_getA (pc := 16) (ci := 7) (f := 1) (dK D_Standbys_copyFrom 9 rfl) q_191 hc1 (ltK rfl) (ltK rfl) rfl ?_
  refine vg_iconst (pc := 19) (dK D_Standbys_copyFrom 10 rfl) ?_
  refine g_aloadn (pc := 20) (i0 := 0) (j := 0) (dK D_Standbys_copyFrom 11 rfl) rfl rfl ?_
  refine vg_getA (pc := 21) (ci := 7) (f := 1) (dK D_Standbys_copyFrom 12 rfl) q_191 hc0 (ltK rfl) (ltK rfl) rfl ?_
  refine vg_iconst (pc := 24) (dK D_Standbys_copyFrom 13 rfl) ?_
  refine vg_bipush (pc := 25) (dK D_Standbys_copyFrom 14 rfl) rfl ?_
  refine nmE h (fun S2 e_S2 h => ?_)
  refine vg_copy (pc := 27) (N := 8) (dK D_Standbys_copyFrom 15 rfl) q_665 (leK rfl) (leK rfl) rfl (hw_7_1 hc1) (hw_7_1 hc0) e_S2 ?_
  refine g_aloadn (pc := 30) (i0 := 0) (j := 0) (dK D_Standbys_copyFrom 16 rfl) rfl rfl ?_
  refine g_aloadn (pc := 31) (i0 := 1) (j := 1) (dK D_Standbys_copyFrom 17 rfl) rfl rfl ?_
  refine vg_getI (pc := 32) (ci := 7) (f := 2) (dK D_Standbys_copyFrom 18 rfl) q_194 hc1 (ltK rfl) (ltK rfl) rfl ?_
  refine nmE h (fun S3 e_S3 h => ?_)
  refine vg_putI (pc := 35) (ci := 7) (f := 2) (z := (g S2 c1 2)) (dK D_Standbys_copyFrom 19 rfl) q_194 hc0 (ltK rfl) (ltK rfl) rfl rfl e_S3 ?_
  exact g_return (pc := 38) (dK D_Standbys_copyFrom 20 rfl) rfl (leK rfl) (leK rfl) (fun _ => rfl) (by obtain rfl := Option.some.inj h; exact ⟨rfl, rfl⟩)
def fn_Forms_copyFrom (c0 : Nat) (c1 : Nat) (S : St) : Option (St) := nm (cpI S (tgt c1 0) (tgt c0 0) 8) fun S1 => nm (cpI S1 (tgt c1 1) (tgt c0 1) 8) fun S2 => nm (cpI S2 (tgt c1 2) (tgt c0 2) 8) fun S3 => some S3
theorem tf_Forms_copyFrom {E : EV} {X : XT} {c0 : Nat} (hc0 : HC X 2 c0) {c1 : Nat} (hc1 : HC X 2 c1) {S : St} {q : St} (h : fn_Forms_copyFrom c0 c1 S = some q) : Ev E M_Forms_copyFrom [.ref c0, .ref c1] (WX X S) 0 0 (KU X q) := by
  refine Ev.of pn_Forms rfl (leK rfl) ?_
  show Go E M_Forms_copyFrom 0 0 0 [(0, .ref c0), (1, .ref c1)] [] (WX X S) 0 0 (KU X q)
  unfold fn_Forms_copyFrom at h
  refine g_aloadn (pc := 0) (i0 := 1) (j := 1) (dK D_Forms_copyFrom 0 rfl) rfl rfl ?_
  refine vg_getA (pc := 1) (ci := 2) (f := 0) (dK D_Forms_copyFrom 1 rfl) q_211 hc1 (ltK rfl) (ltK rfl) rfl ?_
  refine vg_iconst (pc := 4) (dK D_Forms_copyFrom 2 rfl) ?_
  refine g_aloadn (pc := 5) (i0 := 0) (j := 0) (dK D_Forms_copyFrom 3 rfl) rfl rfl ?_
  refine vg_getA (pc := 6) (ci := 2) (f := 0) (dK D_Forms_copyFrom 4 rfl) q_211 hc0 (ltK rfl) (ltK rfl) rfl ?_
  refine vg_iconst (pc := 9) (dK D_Forms_copyFrom 5 rfl) ?_
  refine vg_bipush (pc := 10) (dK D_Forms_copyFrom 6 rfl) rfl ?_
  refine nmE h (fun S1 e_S1 h => ?_)
  refine vg_copy (pc := 12) (N := 8) (dK D_Forms_copyFrom 7 rfl) q_670 (leK rfl) (leK rfl) rfl (hw_2_0 hc1) (hw_2_0 hc0) e_S1 ?_
  refine g_aloadn (pc := 15) (i0 := 1) (j := 1) (dK D_Forms_copyFrom 8 rfl) rfl rfl ?_
  refine vg_getA (pc := 16) (ci := 2) (f := 1) (dK D_Forms_copyFrom 9 rfl) q_216 hc1 (ltK rfl) (ltK rfl) rfl ?_
  refine vg_iconst (pc := 19) (dK D_Forms_copyFrom 10 rfl) ?_
  refine g_aloadn (pc := 20) (i0 := 0) (j := 0) (dK D_Forms_copyFrom 11 rfl) rfl rfl ?_
  refine vg_getA (pc := 21) (ci := 2) (f := 1) (dK D_Forms_copyFrom 12 rfl) q_216 hc0 (ltK rfl) (ltK rfl) rfl ?_
  refine vg_iconst (pc := 24) (dK D_Forms_copyFrom 13 rfl) ?_
  refine vg_bipush (pc := 25) (dK D_Forms_copyFrom 14 rfl) rfl ?_
  refine nmE h (fun S2 e_S2 h => ?_)
  refine vg_copy (pc := 27) (N := 8) (dK D_Forms_copyFrom 15 rfl) q_670 (leK rfl) (leK rfl) rfl (hw_2_1 hc1) (hw_2_1 hc0) e_S2 ?_
  refine g_aloadn (pc := 30) (i0 := 1) (j := 1) (dK D_Forms_copyFrom 16 rfl) rfl rfl ?_
  refine vg_getA (pc := 31) (ci := 2) (f := 2) (dK D_Forms_copyFrom 17 rfl) q_220 hc1 (ltK rfl) (ltK rfl) rfl ?_
  refine vg_iconst (pc := 34) (dK D_Forms_copyFrom 18 rfl) ?_
  refine g_aloadn (pc := 35) (i0 := 0) (j := 0) (dK D_Forms_copyFrom 19 rfl) rfl rfl ?_
  refine vg_getA (pc := 36) (ci := 2) (f := 2) (dK D_Forms_copyFrom 20 rfl) q_220 hc0 (ltK rfl) (ltK rfl) rfl ?_
  refine vg_iconst (pc := 39) (dK D_Forms_copyFrom 21 rfl) ?_
  refine vg_bipush (pc := 40) (dK D_Forms_copyFrom 22 rfl) rfl ?_
  refine nmE h (fun S3 e_S3 h => ?_)
  refine vg_copy (pc := 42) (N := 8) (dK D_Forms_copyFrom 23 rfl) q_670 (leK rfl) (leK rfl) rfl (hw_2_2 hc1) (hw_2_2 hc0) e_S3 ?_
  exact g_return (pc := 45) (dK D_Forms_copyFrom 24 rfl) rfl (leK rfl) (leK rfl) (fun _ => rfl) (by obtain rfl := Option.some.inj h; exact ⟨rfl, rfl⟩)
def fn_State_copyFrom (c0 : Nat) (c1 : Nat) (S : St) : Option (St) := bnO (fn_Ads_copyFrom (tgt c0 0) (tgt c1 0) S) fun p1 => bnO (fn_Stories_copyFrom (tgt c0 1) (tgt c1 1) p1) fun p2 => bnO (fn_Standbys_copyFrom (tgt c0 2) (tgt c1 2) p2) fun p3 => bnO (fn_Forms_copyFrom (tgt c0 3) (tgt c1 3) p3) fun p4 => nm (u p4 c0 4 (g p4 c1 4)) fun S5 => nm (u S5 c0 5 (g S5 c1 5)) fun S6 => nm (u S6 c0 6 (g S6 c1 6)) fun S7 => nm (u S7 c0 7 (g S7 c1 7)) fun S8 => some S8
theorem tf_State_copyFrom {E : EV} {X : XT} {c0 : Nat} (hc0 : HC X 8 c0) {c1 : Nat} (hc1 : HC X 8 c1) {S : St} {q : St} (h : fn_State_copyFrom c0 c1 S = some q) : Ev E M_State_copyFrom [.ref c0, .ref c1] (WX X S) 0 0 (KU X q) := by
  refine Ev.of pn_State rfl (leK rfl) ?_
  show Go E M_State_copyFrom 0 0 0 [(0, .ref c0), (1, .ref c1)] [] (WX X S) 0 0 (KU X q)
  unfold fn_State_copyFrom at h
  refine g_aloadn (pc := 0) (i0 := 0) (j := 0) (dK D_State_copyFrom 0 rfl) rfl rfl ?_
  refine vg_getO (pc := 1) (ci := 8) (f := 0) (dK D_State_copyFrom 1 rfl) q_231 hc0 (ltK rfl) (ltK rfl) rfl ?_
  refine g_aloadn (pc := 4) (i0 := 1) (j := 1) (dK D_State_copyFrom 2 rfl) rfl rfl ?_
  refine vg_getO (pc := 5) (ci := 8) (f := 0) (dK D_State_copyFrom 3 rfl) q_231 hc1 (ltK rfl) (ltK rfl) rfl ?_
  refine bnE h (fun p1 e_p1 h => ?_)
  refine vg_cV (pc := 8) (As := [.ref (tgt c1 0)]) (rest := []) (mc' := 0) (ms' := 0) (dK D_State_copyFrom 4 rfl) K_State_37 (fitK rfl) (ltK rfl) (hw_8_0 hc0) rfl (leK rfl) (leK rfl) (leK rfl) (tf_Ads_copyFrom (hw_8_0 hc0) (hw_8_0 hc1) e_p1) (kcU ?_)
  refine g_aloadn (pc := 11) (i0 := 0) (j := 0) (dK D_State_copyFrom 5 rfl) rfl rfl ?_
  refine vg_getO (pc := 12) (ci := 8) (f := 1) (dK D_State_copyFrom 6 rfl) q_236 hc0 (ltK rfl) (ltK rfl) rfl ?_
  refine g_aloadn (pc := 15) (i0 := 1) (j := 1) (dK D_State_copyFrom 7 rfl) rfl rfl ?_
  refine vg_getO (pc := 16) (ci := 8) (f := 1) (dK D_State_copyFrom 8 rfl) q_236 hc1 (ltK rfl) (ltK rfl) rfl ?_
  refine bnE h (fun p2 e_p2 h => ?_)
  refine vg_cV (pc := 19) (As := [.ref (tgt c1 1)]) (rest := []) (mc' := 0) (ms' := 0) (dK D_State_copyFrom 9 rfl) K_State_41 (fitK rfl) (ltK rfl) (hw_8_1 hc0) rfl (leK rfl) (leK rfl) (leK rfl) (tf_Stories_copyFrom (hw_8_1 hc0) (hw_8_1 hc1) e_p2) (kcU ?_)
  refine g_aloadn (pc := 22) (i0 := 0) (j := 0) (dK D_State_copyFrom 10 rfl) rfl rfl ?_
  refine vg_getO (pc := 23) (ci := 8) (f := 2) (dK D_State_copyFrom 11 rfl) q_241 hc0 (ltK rfl) (ltK rfl) rfl ?_
  refine g_aloadn (pc := 26) (i0 := 1) (j := 1) (dK D_State_copyFrom 12 rfl) rfl rfl ?_
  refine vg_getO (pc := 27) (ci := 8) (f := 2) (dK D_State_copyFrom 13 rfl) q_241 hc1 (ltK rfl) (ltK rfl) rfl ?_
  refine bnE h (fun p3 e_p3 h => ?_)
  refine vg_cV (pc := 30) (As := [.ref (tgt c1 2)]) (rest := []) (mc' := 0) (ms' := 0) (dK D_State_copyFrom 14 rfl) K_State_44 (fitK rfl) (ltK rfl) (hw_8_2 hc0) rfl (leK rfl) (leK rfl) (leK rfl) (tf_Standbys_copyFrom (hw_8_2 hc0) (hw_8_2 hc1) e_p3) (kcU ?_)
  refine g_aloadn (pc := 33) (i0 := 0) (j := 0) (dK D_State_copyFrom 15 rfl) rfl rfl ?_
  refine vg_getO (pc := 34) (ci := 8) (f := 3) (dK D_State_copyFrom 16 rfl) q_245 hc0 (ltK rfl) (ltK rfl) rfl ?_
  refine g_aloadn (pc := 37) (i0 := 1) (j := 1) (dK D_State_copyFrom 17 rfl) rfl rfl ?_
  refine vg_getO (pc := 38) (ci := 8) (f := 3) (dK D_State_copyFrom 18 rfl) q_245 hc1 (ltK rfl) (ltK rfl) rfl ?_
  refine bnE h (fun p4 e_p4 h => ?_)
  refine vg_cV (pc := 41) (As := [.ref (tgt c1 3)]) (rest := []) (mc' := 0) (ms' := 0) (dK D_State_copyFrom 19 rfl) K_State_47 (fitK rfl) (ltK rfl) (hw_8_3 hc0) rfl (leK rfl) (leK rfl) (leK rfl) (tf_Forms_copyFrom (hw_8_3 hc0) (hw_8_3 hc1) e_p4) (kcU ?_)
  refine g_aloadn (pc := 44) (i0 := 0) (j := 0) (dK D_State_copyFrom 20 rfl) rfl rfl ?_
  refine g_aloadn (pc := 45) (i0 := 1) (j := 1) (dK D_State_copyFrom 21 rfl) rfl rfl ?_
  refine vg_getI (pc := 46) (ci := 8) (f := 4) (dK D_State_copyFrom 22 rfl) q_251 hc1 (ltK rfl) (ltK rfl) rfl ?_
  refine nmE h (fun S5 e_S5 h => ?_)
  refine vg_putI (pc := 49) (ci := 8) (f := 4) (z := (g p4 c1 4)) (dK D_State_copyFrom 23 rfl) q_251 hc0 (ltK rfl) (ltK rfl) rfl rfl e_S5 ?_
  refine g_aloadn (pc := 52) (i0 := 0) (j := 0) (dK D_State_copyFrom 24 rfl) rfl rfl ?_
  refine g_aloadn (pc := 53) (i0 := 1) (j := 1) (dK D_State_copyFrom 25 rfl) rfl rfl ?_
  refine vg_getI (pc := 54) (ci := 8) (f := 5) (dK D_State_copyFrom 26 rfl) q_254 hc1 (ltK rfl) (ltK rfl) rfl ?_
  refine nmE h (fun S6 e_S6 h => ?_)
  refine vg_putI (pc := 57) (ci := 8) (f := 5) (z := (g S5 c1 5)) (dK D_State_copyFrom 27 rfl) q_254 hc0 (ltK rfl) (ltK rfl) rfl rfl e_S6 ?_
  refine g_aloadn (pc := 60) (i0 := 0) (j := 0) (dK D_State_copyFrom 28 rfl) rfl rfl ?_
  refine g_aloadn (pc := 61) (i0 := 1) (j := 1) (dK D_State_copyFrom 29 rfl) rfl rfl ?_
  refine vg_getI (pc := 62) (ci := 8) (f := 6) (dK D_State_copyFrom 30 rfl) q_257 hc1 (ltK rfl) (ltK rfl) rfl ?_
  refine nmE h (fun S7 e_S7 h => ?_)
  refine vg_putI (pc := 65) (ci := 8) (f := 6) (z := (g S6 c1 6)) (dK D_State_copyFrom 31 rfl) q_257 hc0 (ltK rfl) (ltK rfl) rfl rfl e_S7 ?_
  refine g_aloadn (pc := 68) (i0 := 0) (j := 0) (dK D_State_copyFrom 32 rfl) rfl rfl ?_
  refine g_aloadn (pc := 69) (i0 := 1) (j := 1) (dK D_State_copyFrom 33 rfl) rfl rfl ?_
  refine vg_getI (pc := 70) (ci := 8) (f := 7) (dK D_State_copyFrom 34 rfl) q_260 hc1 (ltK rfl) (ltK rfl) rfl ?_
  refine nmE h (fun S8 e_S8 h => ?_)
  refine vg_putI (pc := 73) (ci := 8) (f := 7) (z := (g S7 c1 7)) (dK D_State_copyFrom 35 rfl) q_260 hc0 (ltK rfl) (ltK rfl) rfl rfl e_S8 ?_
  exact g_return (pc := 76) (dK D_State_copyFrom 36 rfl) rfl (leK rfl) (leK rfl) (fun _ => rfl) (by obtain rfl := Option.some.inj h; exact ⟨rfl, rfl⟩)
def fn_Plan_become (c0 : Nat) (c1 : Nat) (S : St) : Option (St) := bnO (fn_State_copyFrom (tgt c0 0) c1 S) fun p1 => bnO (fn_Plan_layOut c0 p1) fun p2 => bnO (fn_Plan_recount c0 p2) fun p3 => some p3
theorem tf_Plan_become {E : EV} {X : XT} {c0 : Nat} (hc0 : HC X 4 c0) {c1 : Nat} (hc1 : HC X 8 c1) {S : St} {q : St} (h : fn_Plan_become c0 c1 S = some q) : Ev E M_Plan_become [.ref c0, .ref c1] (WX X S) 0 0 (KU X q) := by
  refine Ev.of pn_Plan rfl (leK rfl) ?_
  show Go E M_Plan_become 0 0 0 [(0, .ref c0), (1, .ref c1)] [] (WX X S) 0 0 (KU X q)
  unfold fn_Plan_become at h
  refine g_aloadn (pc := 0) (i0 := 0) (j := 0) (dK D_Plan_become 0 rfl) rfl rfl ?_
  refine vg_getO (pc := 1) (ci := 4) (f := 0) (dK D_Plan_become 1 rfl) q_301 hc0 (ltK rfl) (ltK rfl) rfl ?_
  refine g_aloadn (pc := 4) (i0 := 1) (j := 1) (dK D_Plan_become 2 rfl) rfl rfl ?_
  refine bnE h (fun p1 e_p1 h => ?_)
  refine vg_cV (pc := 5) (As := [.ref c1]) (rest := []) (mc' := 0) (ms' := 0) (dK D_Plan_become 3 rfl) K_Plan_101 (fitK rfl) (ltK rfl) (hw_4_0 hc0) rfl (leK rfl) (leK rfl) (leK rfl) (tf_State_copyFrom (hw_4_0 hc0) hc1 e_p1) (kcU ?_)
  refine g_aloadn (pc := 8) (i0 := 0) (j := 0) (dK D_Plan_become 4 rfl) rfl rfl ?_
  refine bnE h (fun p2 e_p2 h => ?_)
  refine vg_cV (pc := 9) (As := []) (rest := []) (mc' := 0) (ms' := 0) (dK D_Plan_become 5 rfl) K_Plan_95 (fitK rfl) (ltK rfl) hc0 rfl (leK rfl) (leK rfl) (leK rfl) (tf_Plan_layOut hc0 e_p2) (kcU ?_)
  refine g_aloadn (pc := 12) (i0 := 0) (j := 0) (dK D_Plan_become 6 rfl) rfl rfl ?_
  refine bnE h (fun p3 e_p3 h => ?_)
  refine vg_cV (pc := 13) (As := []) (rest := []) (mc' := 0) (ms' := 0) (dK D_Plan_become 7 rfl) K_Plan_98 (fitK rfl) (ltK rfl) hc0 rfl (leK rfl) (leK rfl) (leK rfl) (tf_Plan_recount hc0 e_p3) (kcU ?_)
  exact g_return (pc := 16) (dK D_Plan_become 8 rfl) rfl (leK rfl) (leK rfl) (fun _ => rfl) (by obtain rfl := Option.some.inj h; exact ⟨rfl, rfl⟩)
def fn_History_forget (c0 : Nat) (S : St) : Option (St) := nm (u S c0 2 0) fun S1 => some S1
theorem tf_History_forget {E : EV} {X : XT} {c0 : Nat} (hc0 : HC X 3 c0) {S : St} {q : St} (h : fn_History_forget c0 S = some q) : Ev E M_History_forget [.ref c0] (WX X S) 0 0 (KU X q) := by
  refine Ev.of pn_History rfl (leK rfl) ?_
  show Go E M_History_forget 0 0 0 [(0, .ref c0)] [] (WX X S) 0 0 (KU X q)
  unfold fn_History_forget at h
  refine g_aloadn (pc := 0) (i0 := 0) (j := 0) (dK D_History_forget 0 rfl) rfl rfl ?_
  refine vg_iconst (pc := 1) (dK D_History_forget 1 rfl) ?_
  refine nmE h (fun S1 e_S1 h => ?_)
  refine vg_putI (pc := 2) (ci := 3) (f := 2) (z := 0) (dK D_History_forget 2 rfl) q_422 hc0 (ltK rfl) (ltK rfl) rfl rfl e_S1 ?_
  exact g_return (pc := 5) (dK D_History_forget 3 rfl) rfl (leK rfl) (leK rfl) (fun _ => rfl) (by obtain rfl := Option.some.inj h; exact ⟨rfl, rfl⟩)
def fn_FP_load (c0 : Nat) (S : St) : Option (Int × St) := bnO (fn_Reader_readText (tgt c0 0) S) fun p1 => nm (u p1.2 (tgt c0 1) 1 0) fun S2 => if p1.1 = (-1) then (some ((-3), S2)) else (bnO (fn_Plan_become (tgt c0 3) (tgt (tgt (tgt c0 0) 1) 0) S2) fun p3 => bnO (fn_History_forget (tgt c0 4) p3) fun p4 => some (p1.1, p4))
theorem tf_FP_load {E : EV} {X : XT} {c0 : Nat} (hc0 : HC X 10 c0) {S : St} {q : Int × St} (h : fn_FP_load c0 S = some q) : Ev E M_FP_load [.ref c0] (WX X S) 0 0 (KI X q.1 q.2) := by
  refine Ev.of pn_FP rfl (leK rfl) ?_
  show Go E M_FP_load 0 0 0 [(0, .ref c0)] [] (WX X S) 0 0 (KI X q.1 q.2)
  unfold fn_FP_load at h
  refine g_aloadn (pc := 0) (i0 := 0) (j := 0) (dK D_FP_load 0 rfl) rfl rfl ?_
  refine vg_getO (pc := 1) (ci := 10) (f := 0) (dK D_FP_load 1 rfl) q_433 hc0 (ltK rfl) (ltK rfl) rfl ?_
  refine bnE h (fun p1 e_p1 h => ?_)
  refine vg_cV (pc := 4) (As := []) (rest := []) (mc' := 0) (ms' := 0) (dK D_FP_load 2 rfl) K_FP_57 (fitK rfl) (ltK rfl) (hw_10_0 hc0) rfl (leK rfl) (leK rfl) (leK rfl) (tf_Reader_readText (hw_10_0 hc0) e_p1) (kcI (fun h_p1 => ?_))
  refine g_istoren (pc := 7) (i0 := 1) (ls2 := [(1, V p1.1), (0, .ref c0)]) (dK D_FP_load 3 rfl) rfl (ltK rfl) rfl ?_
  refine g_aloadn (pc := 8) (i0 := 0) (j := 1) (dK D_FP_load 4 rfl) rfl rfl ?_
  refine vg_getO (pc := 9) (ci := 10) (f := 1) (dK D_FP_load 5 rfl) q_434 hc0 (ltK rfl) (ltK rfl) rfl ?_
  refine vg_iconst (pc := 12) (dK D_FP_load 6 rfl) ?_
  refine nmE h (fun S2 e_S2 h => ?_)
  refine vg_putI (pc := 13) (ci := 1) (f := 1) (z := 0) (dK D_FP_load 7 rfl) q_61 (hw_10_1 hc0) (ltK rfl) (ltK rfl) rfl rfl e_S2 ?_
  refine g_iloadn (pc := 16) (i0 := 1) (j := 0) (dK D_FP_load 8 rfl) rfl rfl ?_
  refine vg_iconst (pc := 17) (dK D_FP_load 9 rfl) ?_
  refine vg_icmp_ne (pc := 18) (t := 24) (dK D_FP_load 10 rfl) rfl h_p1 (inRk rfl) (fun hc5 => ?_) (fun hc5 => ?_)
  · replace h := ifN h hc5
    refine g_aloadn (pc := 24) (i0 := 0) (j := 1) (dK D_FP_load 13 rfl) rfl rfl ?_
    refine vg_getO (pc := 25) (ci := 10) (f := 3) (dK D_FP_load 14 rfl) q_436 hc0 (ltK rfl) (ltK rfl) rfl ?_
    refine g_aloadn (pc := 28) (i0 := 0) (j := 1) (dK D_FP_load 15 rfl) rfl rfl ?_
    refine vg_getO (pc := 29) (ci := 10) (f := 0) (dK D_FP_load 16 rfl) q_433 hc0 (ltK rfl) (ltK rfl) rfl ?_
    refine vg_getO (pc := 32) (ci := 5) (f := 1) (dK D_FP_load 17 rfl) q_345 (hw_10_0 hc0) (ltK rfl) (ltK rfl) rfl ?_
    refine vg_getO (pc := 35) (ci := 4) (f := 0) (dK D_FP_load 18 rfl) q_303 (hw_5_1 (hw_10_0 hc0)) (ltK rfl) (ltK rfl) rfl ?_
    refine bnE h (fun p3 e_p3 h => ?_)
    refine vg_cV (pc := 38) (As := [.ref (tgt (tgt (tgt c0 0) 1) 0)]) (rest := []) (mc' := 0) (ms' := 0) (dK D_FP_load 19 rfl) K_FP_70 (fitK rfl) (ltK rfl) (hw_10_3 hc0) rfl (leK rfl) (leK rfl) (leK rfl) (tf_Plan_become (hw_10_3 hc0) (hw_4_0 (hw_5_1 (hw_10_0 hc0))) e_p3) (kcU ?_)
    refine g_aloadn (pc := 41) (i0 := 0) (j := 1) (dK D_FP_load 20 rfl) rfl rfl ?_
    refine vg_getO (pc := 42) (ci := 10) (f := 4) (dK D_FP_load 21 rfl) q_437 hc0 (ltK rfl) (ltK rfl) rfl ?_
    refine bnE h (fun p4 e_p4 h => ?_)
    refine vg_cV (pc := 45) (As := []) (rest := []) (mc' := 0) (ms' := 0) (dK D_FP_load 22 rfl) K_FP_74 (fitK rfl) (ltK rfl) (hw_10_4 hc0) rfl (leK rfl) (leK rfl) (leK rfl) (tf_History_forget (hw_10_4 hc0) e_p4) (kcU ?_)
    refine g_iloadn (pc := 48) (i0 := 1) (j := 0) (dK D_FP_load 23 rfl) rfl rfl ?_
    exact vg_iretI (pc := 49) (r := p1.1) (dK D_FP_load 24 rfl) rfl (leK rfl) (leK rfl) (fun _ => rfl) (by obtain rfl := Option.some.inj h; exact ⟨rfl, h_p1, rfl⟩)
  · replace h := ifP h hc5
    refine vg_bipush (pc := 21) (dK D_FP_load 11 rfl) rfl ?_
    exact vg_iretI (pc := 23) (r := (-3)) (dK D_FP_load 12 rfl) rfl (leK rfl) (leK rfl) (fun _ => rfl) (by obtain rfl := Option.some.inj h; exact ⟨rfl, (inRk rfl), rfl⟩)
def fn_FP_errorCode (c0 : Nat) (S : St) : Option (Int) := some (g S (tgt c0 0) 6)
theorem tf_FP_errorCode {E : EV} {X : XT} {c0 : Nat} (hc0 : HC X 10 c0) {S : St} {q : Int} (h : fn_FP_errorCode c0 S = some q) : Ev E M_FP_errorCode [.ref c0] (WX X S) 0 0 (KI X q S) := by
  refine Ev.of pn_FP rfl (leK rfl) ?_
  show Go E M_FP_errorCode 0 0 0 [(0, .ref c0)] [] (WX X S) 0 0 (KI X q S)
  unfold fn_FP_errorCode at h
  refine g_aloadn (pc := 0) (i0 := 0) (j := 0) (dK D_FP_errorCode 0 rfl) rfl rfl ?_
  refine vg_getO (pc := 1) (ci := 10) (f := 0) (dK D_FP_errorCode 1 rfl) q_433 hc0 (ltK rfl) (ltK rfl) rfl ?_
  refine vg_getI (pc := 4) (ci := 5) (f := 6) (dK D_FP_errorCode 2 rfl) q_351 (hw_10_0 hc0) (ltK rfl) (ltK rfl) rfl ?_
  exact vg_iretI (pc := 7) (r := (g S (tgt c0 0) 6)) (dK D_FP_errorCode 3 rfl) rfl (leK rfl) (leK rfl) (fun _ => rfl) (by obtain rfl := Option.some.inj h; exact ⟨rfl, (g_in _ _ _), rfl⟩)
def fn_FP_errorPosition (c0 : Nat) (S : St) : Option (Int) := some (g S (tgt c0 0) 7)
theorem tf_FP_errorPosition {E : EV} {X : XT} {c0 : Nat} (hc0 : HC X 10 c0) {S : St} {q : Int} (h : fn_FP_errorPosition c0 S = some q) : Ev E M_FP_errorPosition [.ref c0] (WX X S) 0 0 (KI X q S) := by
  refine Ev.of pn_FP rfl (leK rfl) ?_
  show Go E M_FP_errorPosition 0 0 0 [(0, .ref c0)] [] (WX X S) 0 0 (KI X q S)
  unfold fn_FP_errorPosition at h
  refine g_aloadn (pc := 0) (i0 := 0) (j := 0) (dK D_FP_errorPosition 0 rfl) rfl rfl ?_
  refine vg_getO (pc := 1) (ci := 10) (f := 0) (dK D_FP_errorPosition 1 rfl) q_433 hc0 (ltK rfl) (ltK rfl) rfl ?_
  refine vg_getI (pc := 4) (ci := 5) (f := 7) (dK D_FP_errorPosition 2 rfl) q_353 (hw_10_0 hc0) (ltK rfl) (ltK rfl) rfl ?_
  exact vg_iretI (pc := 7) (r := (g S (tgt c0 0) 7)) (dK D_FP_errorPosition 3 rfl) rfl (leK rfl) (leK rfl) (fun _ => rfl) (by obtain rfl := Option.some.inj h; exact ⟨rfl, (g_in _ _ _), rfl⟩)
def lb_Searches_pagesFor_4 (c0 : Nat) (a1 : Int) (S : St) (go : Int × Int → Option (Int)) (a2 : Int) (a3 : Int) : Option (Int) := if (g S (tgt c0 0) 1) < a3 then (some a2) else (bnO (fn_Plan_adReason (tgt c0 0) a1 a3 S) fun p1 => if p1 = 0 then (nm (wr (a2 + 1)) fun v3 => nm (wr (a3 + 1)) fun v4 => go (v3, v4)) else (nm (wr (a3 + 1)) fun v2 => go (a2, v2)))
def lo_Searches_pagesFor_4 (c0 : Nat) (a1 : Int) (S : St) : Nat → Int × Int → Option (Int) := lp fun go p => lb_Searches_pagesFor_4 c0 a1 S go p.1 p.2
theorem tl_Searches_pagesFor_4 {E : EV} {X : XT} {c0 : Nat} (hc0 : HC X 6 c0) {a1 : Int} (ha1 : inR a1) {S : St} {K : RK → PS → Prop} {q : Int} (hx : inR q → Go E M_Searches_pagesFor 0 0 36 [(2, V q)] [] (WX X S) 0 0 K) : ∀ n a, lo_Searches_pagesFor_4 c0 a1 S n a = some q → inR a.1 → inR a.2 → Go E M_Searches_pagesFor 0 0 4 [(0, .ref c0), (1, V a1), (2, V a.1), (3, V a.2)] [] (WX X S) 0 0 K := by
  refine lp_ind (P := fun a : Int × Int => inR a.1 → inR a.2 → Go E M_Searches_pagesFor 0 0 4 [(0, .ref c0), (1, V a1), (2, V a.1), (3, V a.2)] [] (WX X S) 0 0 K) (fun go ih a h => ?_)
  obtain ⟨a2, a3⟩ := a
  intro ha2 ha3
  show Go E M_Searches_pagesFor 0 0 4 [(0, .ref c0), (1, V a1), (2, V a2), (3, V a3)] [] (WX X S) 0 0 K
  replace h : lb_Searches_pagesFor_4 c0 a1 S go a2 a3 = some q := h
  unfold lb_Searches_pagesFor_4 at h
  refine g_iloadn (pc := 4) (i0 := 3) (j := 3) (dK D_Searches_pagesFor 4 rfl) rfl rfl ?_
  refine g_aloadn (pc := 5) (i0 := 0) (j := 0) (dK D_Searches_pagesFor 5 rfl) rfl rfl ?_
  refine vg_getO (pc := 6) (ci := 6) (f := 0) (dK D_Searches_pagesFor 6 rfl) q_379 hc0 (ltK rfl) (ltK rfl) rfl ?_
  refine vg_getI (pc := 9) (ci := 4) (f := 1) (dK D_Searches_pagesFor 7 rfl) q_306 (hw_6_0 hc0) (ltK rfl) (ltK rfl) rfl ?_
  refine vg_icmp_gt (pc := 12) (t := 36) (dK D_Searches_pagesFor 8 rfl) rfl ha3 (g_in _ _ _) (fun hc6 => ?_) (fun hc6 => ?_)
  · replace h := ifP h hc6
    obtain rfl := Option.some.inj h
    refine gL_weak (ls' := [(2, V a2)]) (sbc 2 rfl sbn) ?_
    exact hx ha2
  · replace h := ifN h hc6
    refine g_aloadn (pc := 15) (i0 := 0) (j := 0) (dK D_Searches_pagesFor 9 rfl) rfl rfl ?_
    refine vg_getO (pc := 16) (ci := 6) (f := 0) (dK D_Searches_pagesFor 10 rfl) q_379 hc0 (ltK rfl) (ltK rfl) rfl ?_
    refine g_iloadn (pc := 19) (i0 := 1) (j := 1) (dK D_Searches_pagesFor 11 rfl) rfl rfl ?_
    refine g_iloadn (pc := 20) (i0 := 3) (j := 3) (dK D_Searches_pagesFor 12 rfl) rfl rfl ?_
    refine bnE h (fun p1 e_p1 h => ?_)
    refine vg_cV (pc := 21) (As := [V a1, V a3]) (rest := []) (mc' := 0) (ms' := 0) (dK D_Searches_pagesFor 13 rfl) K_Searches_105 (fitK rfl) (ltK rfl) (hw_6_0 hc0) rfl (leK rfl) (leK rfl) (leK rfl) (tf_Plan_adReason (hw_6_0 hc0) ha1 ha3 e_p1) (kcI (fun h_p1 => ?_))
    refine vg_if_ne (pc := 24) (t := 30) (dK D_Searches_pagesFor 14 rfl) rfl h_p1 (fun hc5 => ?_) (fun hc5 => ?_)
    · replace h := ifN h hc5
      refine nmE h (fun v2 e_v2 h => ?_)
      refine vg_iinc (pc := 30) (j := 3) (a := a3) (z := 1) (ls2 := [(3, V v2), (0, .ref c0), (1, V a1), (2, V a2)]) (dK D_Searches_pagesFor 16 rfl) rfl e_v2 (ltK rfl) rfl ?_
      refine g_goto (pc := 33) (tgt := 4) (dK D_Searches_pagesFor 17 rfl) rfl ?_
      refine gL_weak (ls' := [(0, .ref c0), (1, V a1), (2, V a2), (3, V v2)]) (sbc 1 rfl (sbc 2 rfl (sbc 3 rfl (sbc 0 rfl sbn)))) ?_
      replace h := ih _ h
      exact h ha2 (Vn_in e_v2)
    · replace h := ifP h hc5
      refine nmE h (fun v3 e_v3 h => ?_)
      refine vg_iinc (pc := 27) (j := 2) (a := a2) (z := 1) (ls2 := [(2, V v3), (0, .ref c0), (1, V a1), (3, V a3)]) (dK D_Searches_pagesFor 15 rfl) rfl e_v3 (ltK rfl) rfl ?_
      refine nmE h (fun v4 e_v4 h => ?_)
      refine vg_iinc (pc := 30) (j := 3) (a := a3) (z := 1) (ls2 := [(3, V v4), (2, V v3), (0, .ref c0), (1, V a1)]) (dK D_Searches_pagesFor 16 rfl) rfl e_v4 (ltK rfl) rfl ?_
      refine g_goto (pc := 33) (tgt := 4) (dK D_Searches_pagesFor 17 rfl) rfl ?_
      refine gL_weak (ls' := [(0, .ref c0), (1, V a1), (2, V v3), (3, V v4)]) (sbc 2 rfl (sbc 3 rfl (sbc 1 rfl (sbc 0 rfl sbn)))) ?_
      replace h := ih _ h
      exact h (Vn_in e_v3) (Vn_in e_v4)
def fn_Searches_pagesFor (c0 : Nat) (a1 : Int) (S : St) : Option (Int) := bnO (lo_Searches_pagesFor_4 c0 a1 S FU (0, 1)) fun p7 => some p7
theorem tf_Searches_pagesFor {E : EV} {X : XT} {c0 : Nat} (hc0 : HC X 6 c0) {a1 : Int} (ha1 : inR a1) {S : St} {q : Int} (h : fn_Searches_pagesFor c0 a1 S = some q) : Ev E M_Searches_pagesFor [.ref c0, V a1] (WX X S) 0 0 (KI X q S) := by
  refine Ev.of pn_Searches rfl (leK rfl) ?_
  show Go E M_Searches_pagesFor 0 0 0 [(0, .ref c0), (1, V a1)] [] (WX X S) 0 0 (KI X q S)
  unfold fn_Searches_pagesFor at h
  refine vg_iconst (pc := 0) (dK D_Searches_pagesFor 0 rfl) ?_
  refine g_istoren (pc := 1) (i0 := 2) (ls2 := [(2, V 0), (0, .ref c0), (1, V a1)]) (dK D_Searches_pagesFor 1 rfl) rfl (ltK rfl) rfl ?_
  refine vg_iconst (pc := 2) (dK D_Searches_pagesFor 2 rfl) ?_
  refine g_istoren (pc := 3) (i0 := 3) (ls2 := [(3, V 1), (2, V 0), (0, .ref c0), (1, V a1)]) (dK D_Searches_pagesFor 3 rfl) rfl (ltK rfl) rfl ?_
  refine bnE h (fun p7 e_p7 h => ?_)
  refine gL_weak (ls' := [(0, .ref c0), (1, V a1), (2, V 0), (3, V 1)]) (sbc 2 rfl (sbc 3 rfl (sbc 1 rfl (sbc 0 rfl sbn)))) ?_
  refine tl_Searches_pagesFor_4 hc0 ha1 (fun hx2_p7 => ?_) FU (0, 1) e_p7 (inRk rfl) (inRk rfl)
  refine g_iloadn (pc := 36) (i0 := 2) (j := 0) (dK D_Searches_pagesFor 18 rfl) rfl rfl ?_
  exact vg_iretI (pc := 37) (r := p7) (dK D_Searches_pagesFor 19 rfl) rfl (leK rfl) (leK rfl) (fun _ => rfl) (by obtain rfl := Option.some.inj h; exact ⟨rfl, hx2_p7, rfl⟩)
def lb_Searches_tightestAd_6 (c0 : Nat) (S : St) (go : Int × Int × Int → Option (Int)) (a1 : Int) (a2 : Int) (a3 : Int) : Option (Int) := if (g S (tgt (tgt c0 1) 0) 7) ≤ a3 then (some a1) else (if 0 ≤ a3 ∧ a3 < 40 then (if (g S (tgt (tgt (tgt c0 1) 0) 6) a3.toNat) = 0 then (bnO (fn_Searches_pagesFor c0 a3 S) fun p3 => if a1 = (-1) then (nm (wr (a3 + 1)) fun v4 => go (a3, p3, v4)) else (if a2 ≤ p3 then (nm (wr (a3 + 1)) fun v5 => go (a1, a2, v5)) else (nm (wr (a3 + 1)) fun v6 => go (a3, p3, v6)))) else (nm (wr (a3 + 1)) fun v2 => go (a1, a2, v2))) else none)
def lo_Searches_tightestAd_6 (c0 : Nat) (S : St) : Nat → Int × Int × Int → Option (Int) := lp fun go p => lb_Searches_tightestAd_6 c0 S go p.1 p.2.1 p.2.2
theorem tl_Searches_tightestAd_6 {E : EV} {X : XT} {c0 : Nat} (hc0 : HC X 6 c0) {S : St} {K : RK → PS → Prop} {q : Int} (hx : inR q → Go E M_Searches_tightestAd 0 0 64 [(1, V q)] [] (WX X S) 0 0 K) : ∀ n a, lo_Searches_tightestAd_6 c0 S n a = some q → inR a.1 → inR a.2.1 → inR a.2.2 → Go E M_Searches_tightestAd 0 0 6 [(0, .ref c0), (1, V a.1), (2, V a.2.1), (3, V a.2.2)] [] (WX X S) 0 0 K := by
  refine lp_ind (P := fun a : Int × Int × Int => inR a.1 → inR a.2.1 → inR a.2.2 → Go E M_Searches_tightestAd 0 0 6 [(0, .ref c0), (1, V a.1), (2, V a.2.1), (3, V a.2.2)] [] (WX X S) 0 0 K) (fun go ih a h => ?_)
  obtain ⟨a1, a2, a3⟩ := a
  intro ha1 ha2 ha3
  show Go E M_Searches_tightestAd 0 0 6 [(0, .ref c0), (1, V a1), (2, V a2), (3, V a3)] [] (WX X S) 0 0 K
  replace h : lb_Searches_tightestAd_6 c0 S go a1 a2 a3 = some q := h
  unfold lb_Searches_tightestAd_6 at h
  refine g_iloadn (pc := 6) (i0 := 3) (j := 3) (dK D_Searches_tightestAd 6 rfl) rfl rfl ?_
  refine g_aloadn (pc := 7) (i0 := 0) (j := 0) (dK D_Searches_tightestAd 7 rfl) rfl rfl ?_
  refine vg_getO (pc := 8) (ci := 6) (f := 1) (dK D_Searches_tightestAd 8 rfl) q_381 hc0 (ltK rfl) (ltK rfl) rfl ?_
  refine vg_getO (pc := 11) (ci := 8) (f := 0) (dK D_Searches_tightestAd 9 rfl) q_232 (hw_6_1 hc0) (ltK rfl) (ltK rfl) rfl ?_
  refine vg_getI (pc := 14) (ci := 0) (f := 7) (dK D_Searches_tightestAd 10 rfl) q_117 (hw_8_0 (hw_6_1 hc0)) (ltK rfl) (ltK rfl) rfl ?_
  refine vg_icmp_ge (pc := 17) (t := 64) (dK D_Searches_tightestAd 11 rfl) rfl ha3 (g_in _ _ _) (fun hc10 => ?_) (fun hc10 => ?_)
  · replace h := ifP h hc10
    obtain rfl := Option.some.inj h
    refine gL_weak (ls' := [(1, V a1)]) (sbc 1 rfl sbn) ?_
    exact hx ha1
  · replace h := ifN h hc10
    refine g_aloadn (pc := 20) (i0 := 0) (j := 0) (dK D_Searches_tightestAd 12 rfl) rfl rfl ?_
    refine vg_getO (pc := 21) (ci := 6) (f := 1) (dK D_Searches_tightestAd 13 rfl) q_381 hc0 (ltK rfl) (ltK rfl) rfl ?_
    refine vg_getO (pc := 24) (ci := 8) (f := 0) (dK D_Searches_tightestAd 14 rfl) q_232 (hw_6_1 hc0) (ltK rfl) (ltK rfl) rfl ?_
    refine vg_getA (pc := 27) (ci := 0) (f := 6) (dK D_Searches_tightestAd 15 rfl) q_112 (hw_8_0 (hw_6_1 hc0)) (ltK rfl) (ltK rfl) rfl ?_
    refine g_iloadn (pc := 30) (i0 := 3) (j := 3) (dK D_Searches_tightestAd 16 rfl) rfl rfl ?_
    refine gdE h (fun hi1 h => ?_)
    refine vg_iaload (pc := 31) (j := a3.toNat) (dK D_Searches_tightestAd 17 rfl) (hw_0_6 (hw_8_0 (hw_6_1 hc0))) rfl hi1 rfl ?_
    refine vg_if_ne (pc := 32) (t := 58) (dK D_Searches_tightestAd 18 rfl) rfl (g_in _ _ _) (fun hc9 => ?_) (fun hc9 => ?_)
    · replace h := ifN h hc9
      refine nmE h (fun v2 e_v2 h => ?_)
      refine vg_iinc (pc := 58) (j := 3) (a := a3) (z := 1) (ls2 := [(3, V v2), (0, .ref c0), (1, V a1), (2, V a2)]) (dK D_Searches_tightestAd 33 rfl) rfl e_v2 (ltK rfl) rfl ?_
      refine g_goto (pc := 61) (tgt := 6) (dK D_Searches_tightestAd 34 rfl) rfl ?_
      refine gL_weak (ls' := [(0, .ref c0), (1, V a1), (2, V a2), (3, V v2)]) (sbc 1 rfl (sbc 2 rfl (sbc 3 rfl (sbc 0 rfl sbn)))) ?_
      replace h := ih _ h
      exact h ha1 ha2 (Vn_in e_v2)
    · replace h := ifP h hc9
      refine g_aloadn (pc := 35) (i0 := 0) (j := 0) (dK D_Searches_tightestAd 19 rfl) rfl rfl ?_
      refine g_iloadn (pc := 36) (i0 := 3) (j := 3) (dK D_Searches_tightestAd 20 rfl) rfl rfl ?_
      refine bnE h (fun p3 e_p3 h => ?_)
      refine vg_cV (pc := 37) (As := [V a3]) (rest := []) (mc' := 0) (ms' := 0) (dK D_Searches_tightestAd 21 rfl) K_Searches_108 (fitK rfl) (ltK rfl) hc0 rfl (leK rfl) (leK rfl) (leK rfl) (tf_Searches_pagesFor hc0 ha3 e_p3) (kcI (fun h_p3 => ?_))
      refine g_istore (pc := 40) (ls2 := [(4, V p3), (0, .ref c0), (1, V a1), (2, V a2), (3, V a3)]) (dK D_Searches_tightestAd 22 rfl) (ltK rfl) rfl ?_
      refine g_iloadn (pc := 42) (i0 := 1) (j := 2) (dK D_Searches_tightestAd 23 rfl) rfl rfl ?_
      refine vg_iconst (pc := 43) (dK D_Searches_tightestAd 24 rfl) ?_
      refine vg_icmp_eq (pc := 44) (t := 53) (dK D_Searches_tightestAd 25 rfl) rfl ha1 (inRk rfl) (fun hc8 => ?_) (fun hc8 => ?_)
      · replace h := ifP h hc8
        refine g_iloadn (pc := 53) (i0 := 3) (j := 4) (dK D_Searches_tightestAd 29 rfl) rfl rfl ?_
        refine g_istoren (pc := 54) (i0 := 1) (ls2 := [(1, V a3), (4, V p3), (0, .ref c0), (2, V a2), (3, V a3)]) (dK D_Searches_tightestAd 30 rfl) rfl (ltK rfl) rfl ?_
        refine g_iload (pc := 55) (j := 1) (dK D_Searches_tightestAd 31 rfl) rfl ?_
        refine g_istoren (pc := 57) (i0 := 2) (ls2 := [(2, V p3), (1, V a3), (4, V p3), (0, .ref c0), (3, V a3)]) (dK D_Searches_tightestAd 32 rfl) rfl (ltK rfl) rfl ?_
        refine nmE h (fun v4 e_v4 h => ?_)
        refine vg_iinc (pc := 58) (j := 4) (a := a3) (z := 1) (ls2 := [(3, V v4), (2, V p3), (1, V a3), (4, V p3), (0, .ref c0)]) (dK D_Searches_tightestAd 33 rfl) rfl e_v4 (ltK rfl) rfl ?_
        refine g_goto (pc := 61) (tgt := 6) (dK D_Searches_tightestAd 34 rfl) rfl ?_
        refine gL_weak (ls' := [(0, .ref c0), (1, V a3), (2, V p3), (3, V v4)]) (sbc 4 rfl (sbc 2 rfl (sbc 1 rfl (sbc 0 rfl sbn)))) ?_
        replace h := ih _ h
        exact h ha3 h_p3 (Vn_in e_v4)
      · replace h := ifN h hc8
        refine g_iload (pc := 47) (j := 0) (dK D_Searches_tightestAd 26 rfl) rfl ?_
        refine g_iloadn (pc := 49) (i0 := 2) (j := 3) (dK D_Searches_tightestAd 27 rfl) rfl rfl ?_
        refine vg_icmp_ge (pc := 50) (t := 58) (dK D_Searches_tightestAd 28 rfl) rfl h_p3 ha2 (fun hc7 => ?_) (fun hc7 => ?_)
        · replace h := ifP h hc7
          refine nmE h (fun v5 e_v5 h => ?_)
          refine vg_iinc (pc := 58) (j := 4) (a := a3) (z := 1) (ls2 := [(3, V v5), (4, V p3), (0, .ref c0), (1, V a1), (2, V a2)]) (dK D_Searches_tightestAd 33 rfl) rfl e_v5 (ltK rfl) rfl ?_
          refine g_goto (pc := 61) (tgt := 6) (dK D_Searches_tightestAd 34 rfl) rfl ?_
          refine gL_weak (ls' := [(0, .ref c0), (1, V a1), (2, V a2), (3, V v5)]) (sbc 2 rfl (sbc 3 rfl (sbc 4 rfl (sbc 0 rfl sbn)))) ?_
          replace h := ih _ h
          exact h ha1 ha2 (Vn_in e_v5)
        · replace h := ifN h hc7
          refine g_iloadn (pc := 53) (i0 := 3) (j := 4) (dK D_Searches_tightestAd 29 rfl) rfl rfl ?_
          refine g_istoren (pc := 54) (i0 := 1) (ls2 := [(1, V a3), (4, V p3), (0, .ref c0), (2, V a2), (3, V a3)]) (dK D_Searches_tightestAd 30 rfl) rfl (ltK rfl) rfl ?_
          refine g_iload (pc := 55) (j := 1) (dK D_Searches_tightestAd 31 rfl) rfl ?_
          refine g_istoren (pc := 57) (i0 := 2) (ls2 := [(2, V p3), (1, V a3), (4, V p3), (0, .ref c0), (3, V a3)]) (dK D_Searches_tightestAd 32 rfl) rfl (ltK rfl) rfl ?_
          refine nmE h (fun v6 e_v6 h => ?_)
          refine vg_iinc (pc := 58) (j := 4) (a := a3) (z := 1) (ls2 := [(3, V v6), (2, V p3), (1, V a3), (4, V p3), (0, .ref c0)]) (dK D_Searches_tightestAd 33 rfl) rfl e_v6 (ltK rfl) rfl ?_
          refine g_goto (pc := 61) (tgt := 6) (dK D_Searches_tightestAd 34 rfl) rfl ?_
          refine gL_weak (ls' := [(0, .ref c0), (1, V a3), (2, V p3), (3, V v6)]) (sbc 4 rfl (sbc 2 rfl (sbc 1 rfl (sbc 0 rfl sbn)))) ?_
          replace h := ih _ h
          exact h ha3 h_p3 (Vn_in e_v6)
def fn_Searches_tightestAd (c0 : Nat) (S : St) : Option (Int) := bnO (lo_Searches_tightestAd_6 c0 S FU ((-1), 0, 0)) fun p11 => some p11
theorem tf_Searches_tightestAd {E : EV} {X : XT} {c0 : Nat} (hc0 : HC X 6 c0) {S : St} {q : Int} (h : fn_Searches_tightestAd c0 S = some q) : Ev E M_Searches_tightestAd [.ref c0] (WX X S) 0 0 (KI X q S) := by
  refine Ev.of pn_Searches rfl (leK rfl) ?_
  show Go E M_Searches_tightestAd 0 0 0 [(0, .ref c0)] [] (WX X S) 0 0 (KI X q S)
  unfold fn_Searches_tightestAd at h
  refine vg_iconst (pc := 0) (dK D_Searches_tightestAd 0 rfl) ?_
  refine g_istoren (pc := 1) (i0 := 1) (ls2 := [(1, V (-1)), (0, .ref c0)]) (dK D_Searches_tightestAd 1 rfl) rfl (ltK rfl) rfl ?_
  refine vg_iconst (pc := 2) (dK D_Searches_tightestAd 2 rfl) ?_
  refine g_istoren (pc := 3) (i0 := 2) (ls2 := [(2, V 0), (1, V (-1)), (0, .ref c0)]) (dK D_Searches_tightestAd 3 rfl) rfl (ltK rfl) rfl ?_
  refine vg_iconst (pc := 4) (dK D_Searches_tightestAd 4 rfl) ?_
  refine g_istoren (pc := 5) (i0 := 3) (ls2 := [(3, V 0), (2, V 0), (1, V (-1)), (0, .ref c0)]) (dK D_Searches_tightestAd 5 rfl) rfl (ltK rfl) rfl ?_
  refine bnE h (fun p11 e_p11 h => ?_)
  refine gL_weak (ls' := [(0, .ref c0), (1, V (-1)), (2, V 0), (3, V 0)]) (sbc 3 rfl (sbc 2 rfl (sbc 1 rfl (sbc 0 rfl sbn)))) ?_
  refine tl_Searches_tightestAd_6 hc0 (fun hx1_p11 => ?_) FU ((-1), 0, 0) e_p11 (inRk rfl) (inRk rfl) (inRk rfl)
  refine g_iloadn (pc := 64) (i0 := 1) (j := 0) (dK D_Searches_tightestAd 35 rfl) rfl rfl ?_
  exact vg_iretI (pc := 65) (r := p11) (dK D_Searches_tightestAd 36 rfl) rfl (leK rfl) (leK rfl) (fun _ => rfl) (by obtain rfl := Option.some.inj h; exact ⟨rfl, hx1_p11, rfl⟩)
def fn_FP_tightest (c0 : Nat) (S : St) : Option (Int) := bnO (fn_Searches_tightestAd (tgt c0 2) S) fun p1 => some p1
theorem tf_FP_tightest {E : EV} {X : XT} {c0 : Nat} (hc0 : HC X 10 c0) {S : St} {q : Int} (h : fn_FP_tightest c0 S = some q) : Ev E M_FP_tightest [.ref c0] (WX X S) 0 0 (KI X q S) := by
  refine Ev.of pn_FP rfl (leK rfl) ?_
  show Go E M_FP_tightest 0 0 0 [(0, .ref c0)] [] (WX X S) 0 0 (KI X q S)
  unfold fn_FP_tightest at h
  refine g_aloadn (pc := 0) (i0 := 0) (j := 0) (dK D_FP_tightest 0 rfl) rfl rfl ?_
  refine vg_getO (pc := 1) (ci := 10) (f := 2) (dK D_FP_tightest 1 rfl) q_435 hc0 (ltK rfl) (ltK rfl) rfl ?_
  refine bnE h (fun p1 e_p1 h => ?_)
  refine vg_cV (pc := 4) (As := []) (rest := []) (mc' := 0) (ms' := 0) (dK D_FP_tightest 2 rfl) K_FP_292 (fitK rfl) (ltK rfl) (hw_10_2 hc0) rfl (leK rfl) (leK rfl) (leK rfl) (tf_Searches_tightestAd (hw_10_2 hc0) e_p1) (kcI (fun h_p1 => ?_))
  exact vg_iretI (pc := 7) (r := p1) (dK D_FP_tightest 3 rfl) rfl (leK rfl) (leK rfl) (fun _ => rfl) (by obtain rfl := Option.some.inj h; exact ⟨rfl, h_p1, rfl⟩)
def fn_Searches_mayMatch (c0 : Nat) (a1 : Int) (a2 : Int) (S : St) : Option (Bool) := bnO (fn_Plan_adReason (tgt c0 0) a1 a2 S) fun p1 => if p1 = 0 then (some true) else (if p1 = 6 then (some true) else (some false))
theorem tf_Searches_mayMatch {E : EV} {X : XT} {c0 : Nat} (hc0 : HC X 6 c0) {a1 : Int} (ha1 : inR a1) {a2 : Int} (ha2 : inR a2) {S : St} {q : Bool} (h : fn_Searches_mayMatch c0 a1 a2 S = some q) : Ev E M_Searches_mayMatch [.ref c0, V a1, V a2] (WX X S) 0 0 (KB X q S) := by
  refine Ev.of pn_Searches rfl (leK rfl) ?_
  show Go E M_Searches_mayMatch 0 0 0 [(0, .ref c0), (1, V a1), (2, V a2)] [] (WX X S) 0 0 (KB X q S)
  unfold fn_Searches_mayMatch at h
  refine g_aloadn (pc := 0) (i0 := 0) (j := 0) (dK D_Searches_mayMatch 0 rfl) rfl rfl ?_
  refine vg_getO (pc := 1) (ci := 6) (f := 0) (dK D_Searches_mayMatch 1 rfl) q_379 hc0 (ltK rfl) (ltK rfl) rfl ?_
  refine g_iloadn (pc := 4) (i0 := 1) (j := 1) (dK D_Searches_mayMatch 2 rfl) rfl rfl ?_
  refine g_iloadn (pc := 5) (i0 := 2) (j := 2) (dK D_Searches_mayMatch 3 rfl) rfl rfl ?_
  refine bnE h (fun p1 e_p1 h => ?_)
  refine vg_cV (pc := 6) (As := [V a1, V a2]) (rest := []) (mc' := 0) (ms' := 0) (dK D_Searches_mayMatch 4 rfl) K_Searches_105 (fitK rfl) (ltK rfl) (hw_6_0 hc0) rfl (leK rfl) (leK rfl) (leK rfl) (tf_Plan_adReason (hw_6_0 hc0) ha1 ha2 e_p1) (kcI (fun h_p1 => ?_))
  refine g_istoren (pc := 9) (i0 := 3) (ls2 := [(3, V p1), (0, .ref c0), (1, V a1), (2, V a2)]) (dK D_Searches_mayMatch 5 rfl) rfl (ltK rfl) rfl ?_
  refine g_iloadn (pc := 10) (i0 := 3) (j := 0) (dK D_Searches_mayMatch 6 rfl) rfl rfl ?_
  refine vg_if_eq (pc := 11) (t := 20) (dK D_Searches_mayMatch 7 rfl) rfl h_p1 (fun hc3 => ?_) (fun hc3 => ?_)
  · replace h := ifP h hc3
    refine vg_iconst (pc := 20) (dK D_Searches_mayMatch 11 rfl) ?_
    refine g_goto (pc := 21) (tgt := 25) (dK D_Searches_mayMatch 12 rfl) rfl ?_
    exact vg_iretB (pc := 25) (b := true) (dK D_Searches_mayMatch 14 rfl) rfl (leK rfl) (leK rfl) (fun _ => rfl) (by obtain rfl := Option.some.inj h; exact ⟨rfl, rfl⟩)
  · replace h := ifN h hc3
    refine g_iloadn (pc := 14) (i0 := 3) (j := 0) (dK D_Searches_mayMatch 8 rfl) rfl rfl ?_
    refine vg_bipush (pc := 15) (dK D_Searches_mayMatch 9 rfl) rfl ?_
    refine vg_icmp_ne (pc := 17) (t := 24) (dK D_Searches_mayMatch 10 rfl) rfl h_p1 (inRk rfl) (fun hc2 => ?_) (fun hc2 => ?_)
    · replace h := ifN h hc2
      refine vg_iconst (pc := 24) (dK D_Searches_mayMatch 13 rfl) ?_
      exact vg_iretB (pc := 25) (b := false) (dK D_Searches_mayMatch 14 rfl) rfl (leK rfl) (leK rfl) (fun _ => rfl) (by obtain rfl := Option.some.inj h; exact ⟨rfl, rfl⟩)
    · replace h := ifP h hc2
      refine vg_iconst (pc := 20) (dK D_Searches_mayMatch 11 rfl) ?_
      refine g_goto (pc := 21) (tgt := 25) (dK D_Searches_mayMatch 12 rfl) rfl ?_
      exact vg_iretB (pc := 25) (b := true) (dK D_Searches_mayMatch 14 rfl) rfl (leK rfl) (leK rfl) (fun _ => rfl) (by obtain rfl := Option.some.inj h; exact ⟨rfl, rfl⟩)
def lb_Searches_changePartners_4 (c0 : Nat) (go : Int × Int × St → Option ((St) ⊕ (St))) (a2 : Int) (a3 : Int) (S : St) : Option ((St) ⊕ (St)) := if 64 ≤ a3 then (some (.inr S)) else (if a2 = 0 then (some (.inr S)) else (if 0 ≤ a2 ∧ a2 < 65 then (if (g S (tgt c0 6) a2.toNat) = (-1) then (some (.inl S)) else (if 0 ≤ (g S (tgt c0 6) a2.toNat) ∧ (g S (tgt c0 6) a2.toNat) < 40 then (nm (u S (tgt c0 5) (((g S (tgt c0 6) a2.toNat)).toNat) a2) fun S3 => nm (u S3 (tgt c0 4) a2.toNat (g S (tgt c0 6) a2.toNat)) fun S4 => nm (wr (a3 + 1)) fun v5 => go ((g S (tgt c0 5) (((g S (tgt c0 6) a2.toNat)).toNat)), v5, S4)) else none)) else none))
def lo_Searches_changePartners_4 (c0 : Nat) : Nat → Int × Int × St → Option ((St) ⊕ (St)) := lp fun go p => lb_Searches_changePartners_4 c0 go p.1 p.2.1 p.2.2
theorem tl_Searches_changePartners_4 {E : EV} {X : XT} {c0 : Nat} (hc0 : HC X 6 c0) {K : RK → PS → Prop} {q : (St) ⊕ (St)} (hx : ∀ p, q = .inr p → Go E M_Searches_changePartners 0 0 63 [] [] (WX X p) 0 0 K) (hr : ∀ p, q = .inl p → K (.inl none) (WX X p)) : ∀ n a, lo_Searches_changePartners_4 c0 n a = some q → inR a.1 → inR a.2.1 → Go E M_Searches_changePartners 0 0 4 [(0, .ref c0), (2, V a.1), (3, V a.2.1)] [] (WX X a.2.2) 0 0 K := by
  refine lp_ind (P := fun a : Int × Int × St => inR a.1 → inR a.2.1 → Go E M_Searches_changePartners 0 0 4 [(0, .ref c0), (2, V a.1), (3, V a.2.1)] [] (WX X a.2.2) 0 0 K) (fun go ih a h => ?_)
  obtain ⟨a2, a3, S⟩ := a
  intro ha2 ha3
  show Go E M_Searches_changePartners 0 0 4 [(0, .ref c0), (2, V a2), (3, V a3)] [] (WX X S) 0 0 K
  replace h : lb_Searches_changePartners_4 c0 go a2 a3 S = some q := h
  unfold lb_Searches_changePartners_4 at h
  refine g_iloadn (pc := 4) (i0 := 3) (j := 2) (dK D_Searches_changePartners 4 rfl) rfl rfl ?_
  refine vg_bipush (pc := 5) (dK D_Searches_changePartners 5 rfl) rfl ?_
  refine vg_icmp_ge (pc := 7) (t := 63) (dK D_Searches_changePartners 6 rfl) rfl ha3 (inRk rfl) (fun hc8 => ?_) (fun hc8 => ?_)
  · replace h := ifP h hc8
    refine gL_weak (ls' := []) sbn ?_
    exact hx _ (Option.some.inj h).symm 
  · replace h := ifN h hc8
    refine g_iloadn (pc := 10) (i0 := 2) (j := 1) (dK D_Searches_changePartners 7 rfl) rfl rfl ?_
    refine vg_if_eq (pc := 11) (t := 63) (dK D_Searches_changePartners 8 rfl) rfl ha2 (fun hc7 => ?_) (fun hc7 => ?_)
    · replace h := ifP h hc7
      refine gL_weak (ls' := []) sbn ?_
      exact hx _ (Option.some.inj h).symm 
    · replace h := ifN h hc7
      refine g_aloadn (pc := 14) (i0 := 0) (j := 0) (dK D_Searches_changePartners 9 rfl) rfl rfl ?_
      refine vg_getA (pc := 15) (ci := 6) (f := 6) (dK D_Searches_changePartners 10 rfl) q_386 hc0 (ltK rfl) (ltK rfl) rfl ?_
      refine g_iloadn (pc := 18) (i0 := 2) (j := 1) (dK D_Searches_changePartners 11 rfl) rfl rfl ?_
      refine gdE h (fun hi1 h => ?_)
      refine vg_iaload (pc := 19) (j := a2.toNat) (dK D_Searches_changePartners 12 rfl) (hw_6_6 hc0) rfl hi1 rfl ?_
      refine g_istore (pc := 20) (ls2 := [(4, V (g S (tgt c0 6) a2.toNat)), (0, .ref c0), (2, V a2), (3, V a3)]) (dK D_Searches_changePartners 13 rfl) (ltK rfl) rfl ?_
      refine g_iload (pc := 22) (j := 0) (dK D_Searches_changePartners 14 rfl) rfl ?_
      refine vg_iconst (pc := 24) (dK D_Searches_changePartners 15 rfl) ?_
      refine vg_icmp_ne (pc := 25) (t := 29) (dK D_Searches_changePartners 16 rfl) rfl (g_in _ _ _) (inRk rfl) (fun hc6 => ?_) (fun hc6 => ?_)
      · replace h := ifN h hc6
        refine g_aloadn (pc := 29) (i0 := 0) (j := 1) (dK D_Searches_changePartners 18 rfl) rfl rfl ?_
        refine vg_getA (pc := 30) (ci := 6) (f := 5) (dK D_Searches_changePartners 19 rfl) q_385 hc0 (ltK rfl) (ltK rfl) rfl ?_
        refine g_iload (pc := 33) (j := 0) (dK D_Searches_changePartners 20 rfl) rfl ?_
        refine gdE h (fun hi2 h => ?_)
        refine vg_iaload (pc := 35) (j := ((g S (tgt c0 6) a2.toNat)).toNat) (dK D_Searches_changePartners 21 rfl) (hw_6_5 hc0) rfl hi2 rfl ?_
        refine g_istore (pc := 36) (ls2 := [(5, V (g S (tgt c0 5) (((g S (tgt c0 6) a2.toNat)).toNat))), (4, V (g S (tgt c0 6) a2.toNat)), (0, .ref c0), (2, V a2), (3, V a3)]) (dK D_Searches_changePartners 22 rfl) (ltK rfl) rfl ?_
        refine g_aloadn (pc := 38) (i0 := 0) (j := 2) (dK D_Searches_changePartners 23 rfl) rfl rfl ?_
        refine vg_getA (pc := 39) (ci := 6) (f := 5) (dK D_Searches_changePartners 24 rfl) q_385 hc0 (ltK rfl) (ltK rfl) rfl ?_
        refine g_iload (pc := 42) (j := 1) (dK D_Searches_changePartners 25 rfl) rfl ?_
        refine g_iloadn (pc := 44) (i0 := 2) (j := 3) (dK D_Searches_changePartners 26 rfl) rfl rfl ?_
        refine nmE h (fun S3 e_S3 h => ?_)
        refine vg_iastore (pc := 45) (z := a2) (dK D_Searches_changePartners 27 rfl) (hw_6_5 hc0) rfl hi2 rfl e_S3 ?_
        refine g_aloadn (pc := 46) (i0 := 0) (j := 2) (dK D_Searches_changePartners 28 rfl) rfl rfl ?_
        refine vg_getA (pc := 47) (ci := 6) (f := 4) (dK D_Searches_changePartners 29 rfl) q_384 hc0 (ltK rfl) (ltK rfl) rfl ?_
        refine g_iloadn (pc := 50) (i0 := 2) (j := 3) (dK D_Searches_changePartners 30 rfl) rfl rfl ?_
        refine g_iload (pc := 51) (j := 1) (dK D_Searches_changePartners 31 rfl) rfl ?_
        refine nmE h (fun S4 e_S4 h => ?_)
        refine vg_iastore (pc := 53) (z := (g S (tgt c0 6) a2.toNat)) (dK D_Searches_changePartners 32 rfl) (hw_6_4 hc0) rfl hi1 rfl e_S4 ?_
        refine g_iload (pc := 54) (j := 0) (dK D_Searches_changePartners 33 rfl) rfl ?_
        refine g_istoren (pc := 56) (i0 := 2) (ls2 := [(2, V (g S (tgt c0 5) (((g S (tgt c0 6) a2.toNat)).toNat))), (5, V (g S (tgt c0 5) (((g S (tgt c0 6) a2.toNat)).toNat))), (4, V (g S (tgt c0 6) a2.toNat)), (0, .ref c0), (3, V a3)]) (dK D_Searches_changePartners 34 rfl) rfl (ltK rfl) rfl ?_
        refine nmE h (fun v5 e_v5 h => ?_)
        refine vg_iinc (pc := 57) (j := 4) (a := a3) (z := 1) (ls2 := [(3, V v5), (2, V (g S (tgt c0 5) (((g S (tgt c0 6) a2.toNat)).toNat))), (5, V (g S (tgt c0 5) (((g S (tgt c0 6) a2.toNat)).toNat))), (4, V (g S (tgt c0 6) a2.toNat)), (0, .ref c0)]) (dK D_Searches_changePartners 35 rfl) rfl e_v5 (ltK rfl) rfl ?_
        refine g_goto (pc := 60) (tgt := 4) (dK D_Searches_changePartners 36 rfl) rfl ?_
        refine gL_weak (ls' := [(0, .ref c0), (2, V (g S (tgt c0 5) (((g S (tgt c0 6) a2.toNat)).toNat))), (3, V v5)]) (sbc 4 rfl (sbc 1 rfl (sbc 0 rfl sbn))) ?_
        replace h := ih _ h
        exact h (g_in _ _ _) (Vn_in e_v5)
      · replace h := ifP h hc6
        exact g_return (pc := 28) (dK D_Searches_changePartners 17 rfl) rfl (leK rfl) (leK rfl) (fun _ => rfl) (hr _ (Option.some.inj h).symm)
def fn_Searches_changePartners (c0 : Nat) (a1 : Int) (S : St) : Option (St) := bnS (lo_Searches_changePartners_4 c0 FU (a1, 0, S)) (fun p10 => some p10) fun p9 => some p9
theorem tf_Searches_changePartners {E : EV} {X : XT} {c0 : Nat} (hc0 : HC X 6 c0) {a1 : Int} (ha1 : inR a1) {S : St} {q : St} (h : fn_Searches_changePartners c0 a1 S = some q) : Ev E M_Searches_changePartners [.ref c0, V a1] (WX X S) 0 0 (KU X q) := by
  refine Ev.of pn_Searches rfl (leK rfl) ?_
  show Go E M_Searches_changePartners 0 0 0 [(0, .ref c0), (1, V a1)] [] (WX X S) 0 0 (KU X q)
  unfold fn_Searches_changePartners at h
  refine g_iloadn (pc := 0) (i0 := 1) (j := 1) (dK D_Searches_changePartners 0 rfl) rfl rfl ?_
  refine g_istoren (pc := 1) (i0 := 2) (ls2 := [(2, V a1), (0, .ref c0), (1, V a1)]) (dK D_Searches_changePartners 1 rfl) rfl (ltK rfl) rfl ?_
  refine vg_iconst (pc := 2) (dK D_Searches_changePartners 2 rfl) ?_
  refine g_istoren (pc := 3) (i0 := 3) (ls2 := [(3, V 0), (2, V a1), (0, .ref c0), (1, V a1)]) (dK D_Searches_changePartners 3 rfl) rfl (ltK rfl) rfl ?_
  refine bnSE h (fun p10 e_p10 h => ?_) (fun p9 e_p9 h => ?_)
  · refine gL_weak (ls' := [(0, .ref c0), (2, V a1), (3, V 0)]) (sbc 2 rfl (sbc 1 rfl (sbc 0 rfl sbn))) ?_
    refine tl_Searches_changePartners_4 hc0 (fun _ e => slr e) (fun p e => ?_) FU (a1, 0, S) e_p10 ha1 (inRk rfl)
    have e := Sum.inl.inj e
    subst e
    exact (by obtain rfl := Option.some.inj h; exact ⟨rfl, rfl⟩)
  · refine gL_weak (ls' := [(0, .ref c0), (2, V a1), (3, V 0)]) (sbc 2 rfl (sbc 1 rfl (sbc 0 rfl sbn))) ?_
    refine tl_Searches_changePartners_4 hc0 (fun p e => ?_) (fun _ e => srl e) FU (a1, 0, S) e_p9 ha1 (inRk rfl)
    have e := Sum.inr.inj e
    subst e
    exact g_return (pc := 63) (dK D_Searches_changePartners 37 rfl) rfl (leK rfl) (leK rfl) (fun _ => rfl) (by obtain rfl := Option.some.inj h; exact ⟨rfl, rfl⟩)
def lb_Searches_matchOneMore_33 (c0 : Nat) (a3 : Int) (go : Int × Int × St → Option ((Bool × St) ⊕ (Int × St))) (a2 : Int) (a4 : Int) (S : St) : Option ((Bool × St) ⊕ (Int × St)) := if (g S (tgt c0 0) 1) < a4 then (some (.inr (a2, S))) else (if 0 ≤ a4 ∧ a4 < 65 then (if (g S (tgt c0 6) a4.toNat) = (-1) then (if 0 ≤ a3 ∧ a3 < 40 then (bnO (fn_Searches_mayMatch c0 (g S (tgt c0 7) a3.toNat) a4 S) fun p6 => if p6 = true then (nm (u S (tgt c0 6) a4.toNat (g S (tgt c0 7) a3.toNat)) fun S9 => if (g S9 (tgt c0 4) a4.toNat) = (-1) then (bnO (fn_Searches_changePartners c0 a4 S9) fun p16 => some (.inl (true, p16))) else (if 40 ≤ a2 then (nm (wr (a4 + 1)) fun v10 => go (a2, v10, S9)) else (if 0 ≤ a2 ∧ a2 < 40 then (nm (u S9 (tgt c0 7) a2.toNat (g S9 (tgt c0 4) a4.toNat)) fun S12 => nm (wr (a2 + 1)) fun v13 => nm (wr (a4 + 1)) fun v14 => go (v13, v14, S12)) else none))) else (nm (wr (a4 + 1)) fun v8 => go (a2, v8, S))) else none) else (nm (wr (a4 + 1)) fun v4 => go (a2, v4, S))) else none)
def lo_Searches_matchOneMore_33 (c0 : Nat) (a3 : Int) : Nat → Int × Int × St → Option ((Bool × St) ⊕ (Int × St)) := lp fun go p => lb_Searches_matchOneMore_33 c0 a3 go p.1 p.2.1 p.2.2
theorem tl_Searches_matchOneMore_33 {E : EV} {X : XT} {c0 : Nat} (hc0 : HC X 6 c0) {a3 : Int} (ha3 : inR a3) {K : RK → PS → Prop} {q : (Bool × St) ⊕ (Int × St)} (hx : ∀ p, q = .inr p → inR p.1 → Go E M_Searches_matchOneMore 0 0 131 [(0, .ref c0), (2, V p.1), (3, V a3)] [] (WX X p.2) 0 0 K) (hr : ∀ p, q = .inl p → K (.inl (some (V (bi p.1)))) (WX X p.2)) : ∀ n a, lo_Searches_matchOneMore_33 c0 a3 n a = some q → inR a.1 → inR a.2.1 → Go E M_Searches_matchOneMore 0 0 33 [(0, .ref c0), (2, V a.1), (3, V a3), (4, V a.2.1)] [] (WX X a.2.2) 0 0 K := by
  refine lp_ind (P := fun a : Int × Int × St => inR a.1 → inR a.2.1 → Go E M_Searches_matchOneMore 0 0 33 [(0, .ref c0), (2, V a.1), (3, V a3), (4, V a.2.1)] [] (WX X a.2.2) 0 0 K) (fun go ih a h => ?_)
  obtain ⟨a2, a4, S⟩ := a
  intro ha2 ha4
  show Go E M_Searches_matchOneMore 0 0 33 [(0, .ref c0), (2, V a2), (3, V a3), (4, V a4)] [] (WX X S) 0 0 K
  replace h : lb_Searches_matchOneMore_33 c0 a3 go a2 a4 S = some q := h
  unfold lb_Searches_matchOneMore_33 at h
  refine g_iload (pc := 33) (j := 3) (dK D_Searches_matchOneMore_0 21 rfl) rfl ?_
  refine g_aloadn (pc := 35) (i0 := 0) (j := 0) (dK D_Searches_matchOneMore_0 22 rfl) rfl rfl ?_
  refine vg_getO (pc := 36) (ci := 6) (f := 0) (dK D_Searches_matchOneMore_0 23 rfl) q_379 hc0 (ltK rfl) (ltK rfl) rfl ?_
  refine vg_getI (pc := 39) (ci := 4) (f := 1) (dK D_Searches_matchOneMore_0 24 rfl) q_306 (hw_6_0 hc0) (ltK rfl) (ltK rfl) rfl ?_
  refine vg_icmp_gt (pc := 42) (t := 131) (dK D_Searches_matchOneMore_0 25 rfl) rfl ha4 (g_in _ _ _) (fun hc19 => ?_) (fun hc19 => ?_)
  · replace h := ifP h hc19
    refine gL_weak (ls' := [(0, .ref c0), (2, V a2), (3, V a3)]) (sbc 0 rfl (sbc 1 rfl (sbc 2 rfl sbn))) ?_
    exact hx _ (Option.some.inj h).symm ha2
  · replace h := ifN h hc19
    refine g_aloadn (pc := 45) (i0 := 0) (j := 0) (dK D_Searches_matchOneMore_0 26 rfl) rfl rfl ?_
    refine vg_getA (pc := 46) (ci := 6) (f := 6) (dK D_Searches_matchOneMore_0 27 rfl) q_386 hc0 (ltK rfl) (ltK rfl) rfl ?_
    refine g_iload (pc := 49) (j := 3) (dK D_Searches_matchOneMore_0 28 rfl) rfl ?_
    refine gdE h (fun hi3 h => ?_)
    refine vg_iaload (pc := 51) (j := a4.toNat) (dK D_Searches_matchOneMore_0 29 rfl) (hw_6_6 hc0) rfl hi3 rfl ?_
    refine vg_iconst (pc := 52) (dK D_Searches_matchOneMore_0 30 rfl) ?_
    refine vg_icmp_ne (pc := 53) (t := 125) (dK D_Searches_matchOneMore_0 31 rfl) rfl (g_in _ _ _) (inRk rfl) (fun hc18 => ?_) (fun hc18 => ?_)
    · replace h := ifN h hc18
      refine nmE h (fun v4 e_v4 h => ?_)
      refine vg_iinc (pc := 125) (j := 3) (a := a4) (z := 1) (ls2 := [(4, V v4), (0, .ref c0), (2, V a2), (3, V a3)]) (dK D_Searches_matchOneMore_1 21 rfl) rfl e_v4 (ltK rfl) rfl ?_
      refine g_goto (pc := 128) (tgt := 33) (dK D_Searches_matchOneMore_1 22 rfl) rfl ?_
      refine gL_weak (ls' := [(0, .ref c0), (2, V a2), (3, V a3), (4, V v4)]) (sbc 1 rfl (sbc 2 rfl (sbc 3 rfl (sbc 0 rfl sbn)))) ?_
      replace h := ih _ h
      exact h ha2 (Vn_in e_v4)
    · replace h := ifP h hc18
      refine g_aloadn (pc := 56) (i0 := 0) (j := 0) (dK D_Searches_matchOneMore_0 32 rfl) rfl rfl ?_
      refine g_aloadn (pc := 57) (i0 := 0) (j := 0) (dK D_Searches_matchOneMore_0 33 rfl) rfl rfl ?_
      refine vg_getA (pc := 58) (ci := 6) (f := 7) (dK D_Searches_matchOneMore_0 34 rfl) q_387 hc0 (ltK rfl) (ltK rfl) rfl ?_
      refine g_iloadn (pc := 61) (i0 := 3) (j := 2) (dK D_Searches_matchOneMore_0 35 rfl) rfl rfl ?_
      refine gdE h (fun hi5 h => ?_)
      refine vg_iaload (pc := 62) (j := a3.toNat) (dK D_Searches_matchOneMore_0 36 rfl) (hw_6_7 hc0) rfl hi5 rfl ?_
      refine g_iload (pc := 63) (j := 3) (dK D_Searches_matchOneMore_0 37 rfl) rfl ?_
      refine bnE h (fun p6 e_p6 h => ?_)
      refine vg_cV (pc := 65) (As := [V (g S (tgt c0 7) a3.toNat), V a4]) (rest := []) (mc' := 0) (ms' := 0) (dK D_Searches_matchOneMore_0 38 rfl) K_Searches_149 (fitK rfl) (ltK rfl) hc0 rfl (leK rfl) (leK rfl) (leK rfl) (tf_Searches_mayMatch hc0 (g_in _ _ _) ha4 e_p6) (kcB ?_)
      refine vg_ifB_eq (pc := 68) (b := p6) (t := 125) (dK D_Searches_matchOneMore_0 39 rfl) rfl (fun hc7 => ?_) (fun hc7 => ?_)
      · replace h := ifP h hc7
        refine g_aloadn (pc := 71) (i0 := 0) (j := 0) (dK D_Searches_matchOneMore_0 40 rfl) rfl rfl ?_
        refine vg_getA (pc := 72) (ci := 6) (f := 6) (dK D_Searches_matchOneMore_0 41 rfl) q_386 hc0 (ltK rfl) (ltK rfl) rfl ?_
        refine g_iload (pc := 75) (j := 3) (dK D_Searches_matchOneMore_0 42 rfl) rfl ?_
        refine g_aloadn (pc := 77) (i0 := 0) (j := 0) (dK D_Searches_matchOneMore_0 43 rfl) rfl rfl ?_
        refine vg_getA (pc := 78) (ci := 6) (f := 7) (dK D_Searches_matchOneMore_0 44 rfl) q_387 hc0 (ltK rfl) (ltK rfl) rfl ?_
        refine g_iloadn (pc := 81) (i0 := 3) (j := 2) (dK D_Searches_matchOneMore_0 45 rfl) rfl rfl ?_
        refine vg_iaload (pc := 82) (j := a3.toNat) (dK D_Searches_matchOneMore_0 46 rfl) (hw_6_7 hc0) rfl hi5 rfl ?_
        refine nmE h (fun S9 e_S9 h => ?_)
        refine vg_iastore (pc := 83) (z := (g S (tgt c0 7) a3.toNat)) (dK D_Searches_matchOneMore_0 47 rfl) (hw_6_6 hc0) rfl hi3 rfl e_S9 ?_
        refine g_aloadn (pc := 84) (i0 := 0) (j := 0) (dK D_Searches_matchOneMore_0 48 rfl) rfl rfl ?_
        refine vg_getA (pc := 85) (ci := 6) (f := 4) (dK D_Searches_matchOneMore_0 49 rfl) q_384 hc0 (ltK rfl) (ltK rfl) rfl ?_
        refine g_iload (pc := 88) (j := 3) (dK D_Searches_matchOneMore_1 0 rfl) rfl ?_
        refine vg_iaload (pc := 90) (j := a4.toNat) (dK D_Searches_matchOneMore_1 1 rfl) (hw_6_4 hc0) rfl hi3 rfl ?_
        refine vg_iconst (pc := 91) (dK D_Searches_matchOneMore_1 2 rfl) ?_
        refine vg_icmp_ne (pc := 92) (t := 103) (dK D_Searches_matchOneMore_1 3 rfl) rfl (g_in _ _ _) (inRk rfl) (fun hc17 => ?_) (fun hc17 => ?_)
        · replace h := ifN h hc17
          refine g_iloadn (pc := 103) (i0 := 2) (j := 1) (dK D_Searches_matchOneMore_1 9 rfl) rfl rfl ?_
          refine vg_bipush (pc := 104) (dK D_Searches_matchOneMore_1 10 rfl) rfl ?_
          refine vg_icmp_ge (pc := 106) (t := 125) (dK D_Searches_matchOneMore_1 11 rfl) rfl ha2 (inRk rfl) (fun hc15 => ?_) (fun hc15 => ?_)
          · replace h := ifP h hc15
            refine nmE h (fun v10 e_v10 h => ?_)
            refine vg_iinc (pc := 125) (j := 3) (a := a4) (z := 1) (ls2 := [(4, V v10), (0, .ref c0), (2, V a2), (3, V a3)]) (dK D_Searches_matchOneMore_1 21 rfl) rfl e_v10 (ltK rfl) rfl ?_
            refine g_goto (pc := 128) (tgt := 33) (dK D_Searches_matchOneMore_1 22 rfl) rfl ?_
            refine gL_weak (ls' := [(0, .ref c0), (2, V a2), (3, V a3), (4, V v10)]) (sbc 1 rfl (sbc 2 rfl (sbc 3 rfl (sbc 0 rfl sbn)))) ?_
            replace h := ih _ h
            exact h ha2 (Vn_in e_v10)
          · replace h := ifN h hc15
            refine g_aloadn (pc := 109) (i0 := 0) (j := 0) (dK D_Searches_matchOneMore_1 12 rfl) rfl rfl ?_
            refine vg_getA (pc := 110) (ci := 6) (f := 7) (dK D_Searches_matchOneMore_1 13 rfl) q_387 hc0 (ltK rfl) (ltK rfl) rfl ?_
            refine g_iloadn (pc := 113) (i0 := 2) (j := 1) (dK D_Searches_matchOneMore_1 14 rfl) rfl rfl ?_
            refine g_aloadn (pc := 114) (i0 := 0) (j := 0) (dK D_Searches_matchOneMore_1 15 rfl) rfl rfl ?_
            refine vg_getA (pc := 115) (ci := 6) (f := 4) (dK D_Searches_matchOneMore_1 16 rfl) q_384 hc0 (ltK rfl) (ltK rfl) rfl ?_
            refine g_iload (pc := 118) (j := 3) (dK D_Searches_matchOneMore_1 17 rfl) rfl ?_
            refine vg_iaload (pc := 120) (j := a4.toNat) (dK D_Searches_matchOneMore_1 18 rfl) (hw_6_4 hc0) rfl hi3 rfl ?_
            refine gdE h (fun hi11 h => ?_)
            refine nmE h (fun S12 e_S12 h => ?_)
            refine vg_iastore (pc := 121) (z := (g S9 (tgt c0 4) a4.toNat)) (dK D_Searches_matchOneMore_1 19 rfl) (hw_6_7 hc0) rfl hi11 rfl e_S12 ?_
            refine nmE h (fun v13 e_v13 h => ?_)
            refine vg_iinc (pc := 122) (j := 1) (a := a2) (z := 1) (ls2 := [(2, V v13), (0, .ref c0), (3, V a3), (4, V a4)]) (dK D_Searches_matchOneMore_1 20 rfl) rfl e_v13 (ltK rfl) rfl ?_
            refine nmE h (fun v14 e_v14 h => ?_)
            refine vg_iinc (pc := 125) (j := 3) (a := a4) (z := 1) (ls2 := [(4, V v14), (2, V v13), (0, .ref c0), (3, V a3)]) (dK D_Searches_matchOneMore_1 21 rfl) rfl e_v14 (ltK rfl) rfl ?_
            refine g_goto (pc := 128) (tgt := 33) (dK D_Searches_matchOneMore_1 22 rfl) rfl ?_
            refine gL_weak (ls' := [(0, .ref c0), (2, V v13), (3, V a3), (4, V v14)]) (sbc 2 rfl (sbc 1 rfl (sbc 3 rfl (sbc 0 rfl sbn)))) ?_
            replace h := ih _ h
            exact h (Vn_in e_v13) (Vn_in e_v14)
        · replace h := ifP h hc17
          refine g_aloadn (pc := 95) (i0 := 0) (j := 0) (dK D_Searches_matchOneMore_1 4 rfl) rfl rfl ?_
          refine g_iload (pc := 96) (j := 3) (dK D_Searches_matchOneMore_1 5 rfl) rfl ?_
          refine bnE h (fun p16 e_p16 h => ?_)
          refine vg_cV (pc := 98) (As := [V a4]) (rest := []) (mc' := 0) (ms' := 0) (dK D_Searches_matchOneMore_1 6 rfl) K_Searches_152 (fitK rfl) (ltK rfl) hc0 rfl (leK rfl) (leK rfl) (leK rfl) (tf_Searches_changePartners hc0 ha4 e_p16) (kcU ?_)
          refine vg_iconst (pc := 101) (dK D_Searches_matchOneMore_1 7 rfl) ?_
          exact vg_iretB (pc := 102) (b := true) (dK D_Searches_matchOneMore_1 8 rfl) rfl (leK rfl) (leK rfl) (fun _ => rfl) (hr _ (Option.some.inj h).symm)
      · replace h := ifN h hc7
        refine nmE h (fun v8 e_v8 h => ?_)
        refine vg_iinc (pc := 125) (j := 3) (a := a4) (z := 1) (ls2 := [(4, V v8), (0, .ref c0), (2, V a2), (3, V a3)]) (dK D_Searches_matchOneMore_1 21 rfl) rfl e_v8 (ltK rfl) rfl ?_
        refine g_goto (pc := 128) (tgt := 33) (dK D_Searches_matchOneMore_1 22 rfl) rfl ?_
        refine gL_weak (ls' := [(0, .ref c0), (2, V a2), (3, V a3), (4, V v8)]) (sbc 1 rfl (sbc 2 rfl (sbc 3 rfl (sbc 0 rfl sbn)))) ?_
        replace h := ih _ h
        exact h ha2 (Vn_in e_v8)
def lb_Searches_matchOneMore_19 (c0 : Nat) (go : Int × Int × St → Option ((Bool × St) ⊕ (St))) (a2 : Int) (a3 : Int) (S : St) : Option ((Bool × St) ⊕ (St)) := if a2 ≤ a3 then (some (.inr S)) else (if 40 ≤ a3 then (some (.inr S)) else (bnS (lo_Searches_matchOneMore_33 c0 a3 FU (a2, 1, S)) (fun p22 => some (.inl (p22.1, p22.2))) fun p20 => nm (wr (a3 + 1)) fun v21 => go (p20.1, v21, p20.2)))
def lo_Searches_matchOneMore_19 (c0 : Nat) : Nat → Int × Int × St → Option ((Bool × St) ⊕ (St)) := lp fun go p => lb_Searches_matchOneMore_19 c0 go p.1 p.2.1 p.2.2
theorem tl_Searches_matchOneMore_19 {E : EV} {X : XT} {c0 : Nat} (hc0 : HC X 6 c0) {K : RK → PS → Prop} {q : (Bool × St) ⊕ (St)} (hx : ∀ p, q = .inr p → Go E M_Searches_matchOneMore 0 0 137 [] [] (WX X p) 0 0 K) (hr : ∀ p, q = .inl p → K (.inl (some (V (bi p.1)))) (WX X p.2)) : ∀ n a, lo_Searches_matchOneMore_19 c0 n a = some q → inR a.1 → inR a.2.1 → Go E M_Searches_matchOneMore 0 0 19 [(0, .ref c0), (2, V a.1), (3, V a.2.1)] [] (WX X a.2.2) 0 0 K := by
  refine lp_ind (P := fun a : Int × Int × St => inR a.1 → inR a.2.1 → Go E M_Searches_matchOneMore 0 0 19 [(0, .ref c0), (2, V a.1), (3, V a.2.1)] [] (WX X a.2.2) 0 0 K) (fun go ih a h => ?_)
  obtain ⟨a2, a3, S⟩ := a
  intro ha2 ha3
  show Go E M_Searches_matchOneMore 0 0 19 [(0, .ref c0), (2, V a2), (3, V a3)] [] (WX X S) 0 0 K
  replace h : lb_Searches_matchOneMore_19 c0 go a2 a3 S = some q := h
  unfold lb_Searches_matchOneMore_19 at h
  refine g_iloadn (pc := 19) (i0 := 3) (j := 2) (dK D_Searches_matchOneMore_0 13 rfl) rfl rfl ?_
  refine g_iloadn (pc := 20) (i0 := 2) (j := 1) (dK D_Searches_matchOneMore_0 14 rfl) rfl rfl ?_
  refine vg_icmp_ge (pc := 21) (t := 137) (dK D_Searches_matchOneMore_0 15 rfl) rfl ha3 ha2 (fun hc24 => ?_) (fun hc24 => ?_)
  · replace h := ifP h hc24
    refine gL_weak (ls' := []) sbn ?_
    exact hx _ (Option.some.inj h).symm 
  · replace h := ifN h hc24
    refine g_iloadn (pc := 24) (i0 := 3) (j := 2) (dK D_Searches_matchOneMore_0 16 rfl) rfl rfl ?_
    refine vg_bipush (pc := 25) (dK D_Searches_matchOneMore_0 17 rfl) rfl ?_
    refine vg_icmp_ge (pc := 27) (t := 137) (dK D_Searches_matchOneMore_0 18 rfl) rfl ha3 (inRk rfl) (fun hc23 => ?_) (fun hc23 => ?_)
    · replace h := ifP h hc23
      refine gL_weak (ls' := []) sbn ?_
      exact hx _ (Option.some.inj h).symm 
    · replace h := ifN h hc23
      refine vg_iconst (pc := 30) (dK D_Searches_matchOneMore_0 19 rfl) ?_
      refine g_istore (pc := 31) (ls2 := [(4, V 1), (0, .ref c0), (2, V a2), (3, V a3)]) (dK D_Searches_matchOneMore_0 20 rfl) (ltK rfl) rfl ?_
      refine bnSE h (fun p22 e_p22 h => ?_) (fun p20 e_p20 h => ?_)
      · refine gL_weak (ls' := [(0, .ref c0), (2, V a2), (3, V a3), (4, V 1)]) (sbc 1 rfl (sbc 2 rfl (sbc 3 rfl (sbc 0 rfl sbn)))) ?_
        refine tl_Searches_matchOneMore_33 hc0 ha3 (fun _ e => slr e) (fun p e => ?_) FU (a2, 1, S) e_p22 ha2 (inRk rfl)
        have e := Sum.inl.inj e
        subst e
        exact (hr _ (Option.some.inj h).symm)
      · refine gL_weak (ls' := [(0, .ref c0), (2, V a2), (3, V a3), (4, V 1)]) (sbc 1 rfl (sbc 2 rfl (sbc 3 rfl (sbc 0 rfl sbn)))) ?_
        refine tl_Searches_matchOneMore_33 hc0 ha3 (fun p e hx2_p20 => ?_) (fun _ e => srl e) FU (a2, 1, S) e_p20 ha2 (inRk rfl)
        have e := Sum.inr.inj e
        subst e
        refine nmE h (fun v21 e_v21 h => ?_)
        refine vg_iinc (pc := 131) (j := 2) (a := a3) (z := 1) (ls2 := [(3, V v21), (0, .ref c0), (2, V p20.1)]) (dK D_Searches_matchOneMore_1 23 rfl) rfl e_v21 (ltK rfl) rfl ?_
        refine g_goto (pc := 134) (tgt := 19) (dK D_Searches_matchOneMore_1 24 rfl) rfl ?_
        refine gL_weak (ls' := [(0, .ref c0), (2, V p20.1), (3, V v21)]) (sbc 1 rfl (sbc 2 rfl (sbc 0 rfl sbn))) ?_
        replace h := ih _ h
        exact h hx2_p20 (Vn_in e_v21)
def fn_Searches_matchOneMore (c0 : Nat) (a1 : Int) (S : St) : Option (Bool × St) := bnO (fn_Arrays_fill 65 (tgt c0 6) (-1) S) fun p1 => nm (u p1 (tgt c0 7) 0 a1) fun S2 => bnS (lo_Searches_matchOneMore_19 c0 FU (1, 0, S2)) (fun p26 => some (p26.1, p26.2)) fun p25 => some (false, p25)
theorem tf_Searches_matchOneMore {E : EV} {X : XT} {c0 : Nat} (hc0 : HC X 6 c0) {a1 : Int} (ha1 : inR a1) {S : St} {q : Bool × St} (h : fn_Searches_matchOneMore c0 a1 S = some q) : Ev E M_Searches_matchOneMore [.ref c0, V a1] (WX X S) 0 0 (KB X q.1 q.2) := by
  refine Ev.of pn_Searches rfl (leK rfl) ?_
  show Go E M_Searches_matchOneMore 0 0 0 [(0, .ref c0), (1, V a1)] [] (WX X S) 0 0 (KB X q.1 q.2)
  unfold fn_Searches_matchOneMore at h
  refine g_aloadn (pc := 0) (i0 := 0) (j := 0) (dK D_Searches_matchOneMore_0 0 rfl) rfl rfl ?_
  refine vg_getA (pc := 1) (ci := 6) (f := 6) (dK D_Searches_matchOneMore_0 1 rfl) q_386 hc0 (ltK rfl) (ltK rfl) rfl ?_
  refine vg_iconst (pc := 4) (dK D_Searches_matchOneMore_0 2 rfl) ?_
  refine bnE h (fun p1 e_p1 h => ?_)
  refine vg_cS (pc := 5) (As := [.ref (tgt c0 6), V (-1)]) (rest := []) (mc' := 0) (ms' := 0) (dK D_Searches_matchOneMore_0 3 rfl) K_Searches_140 (fitK rfl) rfl (leK rfl) (leK rfl) (leK rfl) (tf_Arrays_fill rfl (hw_6_6 hc0) (inRk rfl) e_p1) (kcU ?_)
  refine g_aloadn (pc := 8) (i0 := 0) (j := 0) (dK D_Searches_matchOneMore_0 4 rfl) rfl rfl ?_
  refine vg_getA (pc := 9) (ci := 6) (f := 7) (dK D_Searches_matchOneMore_0 5 rfl) q_387 hc0 (ltK rfl) (ltK rfl) rfl ?_
  refine vg_iconst (pc := 12) (dK D_Searches_matchOneMore_0 6 rfl) ?_
  refine g_iloadn (pc := 13) (i0 := 1) (j := 1) (dK D_Searches_matchOneMore_0 7 rfl) rfl rfl ?_
  refine nmE h (fun S2 e_S2 h => ?_)
  refine vg_iastore (pc := 14) (z := a1) (dK D_Searches_matchOneMore_0 8 rfl) (hw_6_7 hc0) rfl ⟨by decide, by decide⟩ rfl e_S2 ?_
  refine vg_iconst (pc := 15) (dK D_Searches_matchOneMore_0 9 rfl) ?_
  refine g_istoren (pc := 16) (i0 := 2) (ls2 := [(2, V 1), (0, .ref c0), (1, V a1)]) (dK D_Searches_matchOneMore_0 10 rfl) rfl (ltK rfl) rfl ?_
  refine vg_iconst (pc := 17) (dK D_Searches_matchOneMore_0 11 rfl) ?_
  refine g_istoren (pc := 18) (i0 := 3) (ls2 := [(3, V 0), (2, V 1), (0, .ref c0), (1, V a1)]) (dK D_Searches_matchOneMore_0 12 rfl) rfl (ltK rfl) rfl ?_
  refine bnSE h (fun p26 e_p26 h => ?_) (fun p25 e_p25 h => ?_)
  · refine gL_weak (ls' := [(0, .ref c0), (2, V 1), (3, V 0)]) (sbc 2 rfl (sbc 1 rfl (sbc 0 rfl sbn))) ?_
    refine tl_Searches_matchOneMore_19 hc0 (fun _ e => slr e) (fun p e => ?_) FU (1, 0, S2) e_p26 (inRk rfl) (inRk rfl)
    have e := Sum.inl.inj e
    subst e
    exact (by obtain rfl := Option.some.inj h; exact ⟨rfl, rfl⟩)
  · refine gL_weak (ls' := [(0, .ref c0), (2, V 1), (3, V 0)]) (sbc 2 rfl (sbc 1 rfl (sbc 0 rfl sbn))) ?_
    refine tl_Searches_matchOneMore_19 hc0 (fun p e => ?_) (fun _ e => srl e) FU (1, 0, S2) e_p25 (inRk rfl) (inRk rfl)
    have e := Sum.inr.inj e
    subst e
    refine vg_iconst (pc := 137) (dK D_Searches_matchOneMore_1 25 rfl) ?_
    exact vg_iretB (pc := 138) (b := false) (dK D_Searches_matchOneMore_1 26 rfl) rfl (leK rfl) (leK rfl) (fun _ => rfl) (by obtain rfl := Option.some.inj h; exact ⟨rfl, rfl⟩)
def lb_Searches_matchedAds_20 (c0 : Nat) (go : Int × Int × St → Option (Int × St)) (a1 : Int) (a2 : Int) (S : St) : Option (Int × St) := if (g S (tgt (tgt c0 1) 0) 7) ≤ a2 then (some (a1, S)) else (if 0 ≤ a2 ∧ a2 < 40 then (if (g S (tgt (tgt (tgt c0 1) 0) 0) a2.toNat) = 4 then (if (g S (tgt (tgt (tgt c0 1) 0) 6) a2.toNat) = 0 then (bnO (fn_Searches_matchOneMore c0 a2 S) fun p6 => if p6.1 = true then (nm (wr (a1 + 1)) fun v9 => nm (wr (a2 + 1)) fun v10 => go (v9, v10, p6.2)) else (nm (wr (a2 + 1)) fun v8 => go (a1, v8, p6.2))) else (nm (wr (a2 + 1)) fun v5 => go (a1, v5, S))) else (nm (wr (a2 + 1)) fun v4 => go (a1, v4, S))) else none)
def lo_Searches_matchedAds_20 (c0 : Nat) : Nat → Int × Int × St → Option (Int × St) := lp fun go p => lb_Searches_matchedAds_20 c0 go p.1 p.2.1 p.2.2
theorem tl_Searches_matchedAds_20 {E : EV} {X : XT} {c0 : Nat} (hc0 : HC X 6 c0) {K : RK → PS → Prop} {q : Int × St} (hx : inR q.1 → Go E M_Searches_matchedAds 0 0 82 [(1, V q.1)] [] (WX X q.2) 0 0 K) : ∀ n a, lo_Searches_matchedAds_20 c0 n a = some q → inR a.1 → inR a.2.1 → Go E M_Searches_matchedAds 0 0 20 [(0, .ref c0), (1, V a.1), (2, V a.2.1)] [] (WX X a.2.2) 0 0 K := by
  refine lp_ind (P := fun a : Int × Int × St => inR a.1 → inR a.2.1 → Go E M_Searches_matchedAds 0 0 20 [(0, .ref c0), (1, V a.1), (2, V a.2.1)] [] (WX X a.2.2) 0 0 K) (fun go ih a h => ?_)
  obtain ⟨a1, a2, S⟩ := a
  intro ha1 ha2
  show Go E M_Searches_matchedAds 0 0 20 [(0, .ref c0), (1, V a1), (2, V a2)] [] (WX X S) 0 0 K
  replace h : lb_Searches_matchedAds_20 c0 go a1 a2 S = some q := h
  unfold lb_Searches_matchedAds_20 at h
  refine g_iloadn (pc := 20) (i0 := 2) (j := 2) (dK D_Searches_matchedAds 12 rfl) rfl rfl ?_
  refine g_aloadn (pc := 21) (i0 := 0) (j := 0) (dK D_Searches_matchedAds 13 rfl) rfl rfl ?_
  refine vg_getO (pc := 22) (ci := 6) (f := 1) (dK D_Searches_matchedAds 14 rfl) q_381 hc0 (ltK rfl) (ltK rfl) rfl ?_
  refine vg_getO (pc := 25) (ci := 8) (f := 0) (dK D_Searches_matchedAds 15 rfl) q_232 (hw_6_1 hc0) (ltK rfl) (ltK rfl) rfl ?_
  refine vg_getI (pc := 28) (ci := 0) (f := 7) (dK D_Searches_matchedAds 16 rfl) q_117 (hw_8_0 (hw_6_1 hc0)) (ltK rfl) (ltK rfl) rfl ?_
  refine vg_icmp_ge (pc := 31) (t := 82) (dK D_Searches_matchedAds 17 rfl) rfl ha2 (g_in _ _ _) (fun hc13 => ?_) (fun hc13 => ?_)
  · replace h := ifP h hc13
    obtain rfl := Option.some.inj h
    refine gL_weak (ls' := [(1, V a1)]) (sbc 1 rfl sbn) ?_
    exact hx ha1
  · replace h := ifN h hc13
    refine g_aloadn (pc := 34) (i0 := 0) (j := 0) (dK D_Searches_matchedAds 18 rfl) rfl rfl ?_
    refine vg_getO (pc := 35) (ci := 6) (f := 1) (dK D_Searches_matchedAds 19 rfl) q_381 hc0 (ltK rfl) (ltK rfl) rfl ?_
    refine vg_getO (pc := 38) (ci := 8) (f := 0) (dK D_Searches_matchedAds 20 rfl) q_232 (hw_6_1 hc0) (ltK rfl) (ltK rfl) rfl ?_
    refine vg_getA (pc := 41) (ci := 0) (f := 0) (dK D_Searches_matchedAds 21 rfl) q_88 (hw_8_0 (hw_6_1 hc0)) (ltK rfl) (ltK rfl) rfl ?_
    refine g_iloadn (pc := 44) (i0 := 2) (j := 2) (dK D_Searches_matchedAds 22 rfl) rfl rfl ?_
    refine gdE h (fun hi3 h => ?_)
    refine vg_iaload (pc := 45) (j := a2.toNat) (dK D_Searches_matchedAds 23 rfl) (hw_0_0 (hw_8_0 (hw_6_1 hc0))) rfl hi3 rfl ?_
    refine vg_iconst (pc := 46) (dK D_Searches_matchedAds 24 rfl) ?_
    refine vg_icmp_ne (pc := 47) (t := 76) (dK D_Searches_matchedAds 25 rfl) rfl (g_in _ _ _) (inRk rfl) (fun hc12 => ?_) (fun hc12 => ?_)
    · replace h := ifN h hc12
      refine nmE h (fun v4 e_v4 h => ?_)
      refine vg_iinc (pc := 76) (j := 2) (a := a2) (z := 1) (ls2 := [(2, V v4), (0, .ref c0), (1, V a1)]) (dK D_Searches_matchedAds 38 rfl) rfl e_v4 (ltK rfl) rfl ?_
      refine g_goto (pc := 79) (tgt := 20) (dK D_Searches_matchedAds 39 rfl) rfl ?_
      refine gL_weak (ls' := [(0, .ref c0), (1, V a1), (2, V v4)]) (sbc 1 rfl (sbc 2 rfl (sbc 0 rfl sbn))) ?_
      replace h := ih _ h
      exact h ha1 (Vn_in e_v4)
    · replace h := ifP h hc12
      refine g_aloadn (pc := 50) (i0 := 0) (j := 0) (dK D_Searches_matchedAds 26 rfl) rfl rfl ?_
      refine vg_getO (pc := 51) (ci := 6) (f := 1) (dK D_Searches_matchedAds 27 rfl) q_381 hc0 (ltK rfl) (ltK rfl) rfl ?_
      refine vg_getO (pc := 54) (ci := 8) (f := 0) (dK D_Searches_matchedAds 28 rfl) q_232 (hw_6_1 hc0) (ltK rfl) (ltK rfl) rfl ?_
      refine vg_getA (pc := 57) (ci := 0) (f := 6) (dK D_Searches_matchedAds 29 rfl) q_112 (hw_8_0 (hw_6_1 hc0)) (ltK rfl) (ltK rfl) rfl ?_
      refine g_iloadn (pc := 60) (i0 := 2) (j := 2) (dK D_Searches_matchedAds 30 rfl) rfl rfl ?_
      refine vg_iaload (pc := 61) (j := a2.toNat) (dK D_Searches_matchedAds 31 rfl) (hw_0_6 (hw_8_0 (hw_6_1 hc0))) rfl hi3 rfl ?_
      refine vg_if_ne (pc := 62) (t := 76) (dK D_Searches_matchedAds 32 rfl) rfl (g_in _ _ _) (fun hc11 => ?_) (fun hc11 => ?_)
      · replace h := ifN h hc11
        refine nmE h (fun v5 e_v5 h => ?_)
        refine vg_iinc (pc := 76) (j := 2) (a := a2) (z := 1) (ls2 := [(2, V v5), (0, .ref c0), (1, V a1)]) (dK D_Searches_matchedAds 38 rfl) rfl e_v5 (ltK rfl) rfl ?_
        refine g_goto (pc := 79) (tgt := 20) (dK D_Searches_matchedAds 39 rfl) rfl ?_
        refine gL_weak (ls' := [(0, .ref c0), (1, V a1), (2, V v5)]) (sbc 1 rfl (sbc 2 rfl (sbc 0 rfl sbn))) ?_
        replace h := ih _ h
        exact h ha1 (Vn_in e_v5)
      · replace h := ifP h hc11
        refine g_aloadn (pc := 65) (i0 := 0) (j := 0) (dK D_Searches_matchedAds 33 rfl) rfl rfl ?_
        refine g_iloadn (pc := 66) (i0 := 2) (j := 2) (dK D_Searches_matchedAds 34 rfl) rfl rfl ?_
        refine bnE h (fun p6 e_p6 h => ?_)
        refine vg_cV (pc := 67) (As := [V a2]) (rest := []) (mc' := 0) (ms' := 0) (dK D_Searches_matchedAds 35 rfl) K_Searches_146 (fitK rfl) (ltK rfl) hc0 rfl (leK rfl) (leK rfl) (leK rfl) (tf_Searches_matchOneMore hc0 ha2 e_p6) (kcB ?_)
        refine vg_ifB_eq (pc := 70) (b := p6.1) (t := 76) (dK D_Searches_matchedAds 36 rfl) rfl (fun hc7 => ?_) (fun hc7 => ?_)
        · replace h := ifP h hc7
          refine nmE h (fun v9 e_v9 h => ?_)
          refine vg_iinc (pc := 73) (j := 1) (a := a1) (z := 1) (ls2 := [(1, V v9), (0, .ref c0), (2, V a2)]) (dK D_Searches_matchedAds 37 rfl) rfl e_v9 (ltK rfl) rfl ?_
          refine nmE h (fun v10 e_v10 h => ?_)
          refine vg_iinc (pc := 76) (j := 2) (a := a2) (z := 1) (ls2 := [(2, V v10), (1, V v9), (0, .ref c0)]) (dK D_Searches_matchedAds 38 rfl) rfl e_v10 (ltK rfl) rfl ?_
          refine g_goto (pc := 79) (tgt := 20) (dK D_Searches_matchedAds 39 rfl) rfl ?_
          refine gL_weak (ls' := [(0, .ref c0), (1, V v9), (2, V v10)]) (sbc 2 rfl (sbc 1 rfl (sbc 0 rfl sbn))) ?_
          replace h := ih _ h
          exact h (Vn_in e_v9) (Vn_in e_v10)
        · replace h := ifN h hc7
          refine nmE h (fun v8 e_v8 h => ?_)
          refine vg_iinc (pc := 76) (j := 2) (a := a2) (z := 1) (ls2 := [(2, V v8), (0, .ref c0), (1, V a1)]) (dK D_Searches_matchedAds 38 rfl) rfl e_v8 (ltK rfl) rfl ?_
          refine g_goto (pc := 79) (tgt := 20) (dK D_Searches_matchedAds 39 rfl) rfl ?_
          refine gL_weak (ls' := [(0, .ref c0), (1, V a1), (2, V v8)]) (sbc 1 rfl (sbc 2 rfl (sbc 0 rfl sbn))) ?_
          replace h := ih _ h
          exact h ha1 (Vn_in e_v8)
def fn_Searches_matchedAds (c0 : Nat) (S : St) : Option (Int × St) := bnO (fn_Arrays_fill 65 (tgt c0 4) (-1) S) fun p1 => bnO (fn_Arrays_fill 40 (tgt c0 5) 0 p1) fun p2 => bnO (lo_Searches_matchedAds_20 c0 FU (0, 0, p2)) fun p14 => some (p14.1, p14.2)
theorem tf_Searches_matchedAds {E : EV} {X : XT} {c0 : Nat} (hc0 : HC X 6 c0) {S : St} {q : Int × St} (h : fn_Searches_matchedAds c0 S = some q) : Ev E M_Searches_matchedAds [.ref c0] (WX X S) 0 0 (KI X q.1 q.2) := by
  refine Ev.of pn_Searches rfl (leK rfl) ?_
  show Go E M_Searches_matchedAds 0 0 0 [(0, .ref c0)] [] (WX X S) 0 0 (KI X q.1 q.2)
  unfold fn_Searches_matchedAds at h
  refine g_aloadn (pc := 0) (i0 := 0) (j := 0) (dK D_Searches_matchedAds 0 rfl) rfl rfl ?_
  refine vg_getA (pc := 1) (ci := 6) (f := 4) (dK D_Searches_matchedAds 1 rfl) q_384 hc0 (ltK rfl) (ltK rfl) rfl ?_
  refine vg_iconst (pc := 4) (dK D_Searches_matchedAds 2 rfl) ?_
  refine bnE h (fun p1 e_p1 h => ?_)
  refine vg_cS (pc := 5) (As := [.ref (tgt c0 4), V (-1)]) (rest := []) (mc' := 0) (ms' := 0) (dK D_Searches_matchedAds 3 rfl) K_Searches_140 (fitK rfl) rfl (leK rfl) (leK rfl) (leK rfl) (tf_Arrays_fill rfl (hw_6_4 hc0) (inRk rfl) e_p1) (kcU ?_)
  refine g_aloadn (pc := 8) (i0 := 0) (j := 0) (dK D_Searches_matchedAds 4 rfl) rfl rfl ?_
  refine vg_getA (pc := 9) (ci := 6) (f := 5) (dK D_Searches_matchedAds 5 rfl) q_385 hc0 (ltK rfl) (ltK rfl) rfl ?_
  refine vg_iconst (pc := 12) (dK D_Searches_matchedAds 6 rfl) ?_
  refine bnE h (fun p2 e_p2 h => ?_)
  refine vg_cS (pc := 13) (As := [.ref (tgt c0 5), V 0]) (rest := []) (mc' := 0) (ms' := 0) (dK D_Searches_matchedAds 7 rfl) K_Searches_140 (fitK rfl) rfl (leK rfl) (leK rfl) (leK rfl) (tf_Arrays_fill rfl (hw_6_5 hc0) (inRk rfl) e_p2) (kcU ?_)
  refine vg_iconst (pc := 16) (dK D_Searches_matchedAds 8 rfl) ?_
  refine g_istoren (pc := 17) (i0 := 1) (ls2 := [(1, V 0), (0, .ref c0)]) (dK D_Searches_matchedAds 9 rfl) rfl (ltK rfl) rfl ?_
  refine vg_iconst (pc := 18) (dK D_Searches_matchedAds 10 rfl) ?_
  refine g_istoren (pc := 19) (i0 := 2) (ls2 := [(2, V 0), (1, V 0), (0, .ref c0)]) (dK D_Searches_matchedAds 11 rfl) rfl (ltK rfl) rfl ?_
  refine bnE h (fun p14 e_p14 h => ?_)
  refine gL_weak (ls' := [(0, .ref c0), (1, V 0), (2, V 0)]) (sbc 2 rfl (sbc 1 rfl (sbc 0 rfl sbn))) ?_
  refine tl_Searches_matchedAds_20 hc0 (fun hx1_p14 => ?_) FU (0, 0, p2) e_p14 (inRk rfl) (inRk rfl)
  refine g_iloadn (pc := 82) (i0 := 1) (j := 0) (dK D_Searches_matchedAds 40 rfl) rfl rfl ?_
  exact vg_iretI (pc := 83) (r := p14.1) (dK D_Searches_matchedAds 41 rfl) rfl (leK rfl) (leK rfl) (fun _ => rfl) (by obtain rfl := Option.some.inj h; exact ⟨rfl, hx1_p14, rfl⟩)
def fn_FP_matching (c0 : Nat) (S : St) : Option (Int × St) := bnO (fn_Searches_matchedAds (tgt c0 2) S) fun p1 => some (p1.1, p1.2)
theorem tf_FP_matching {E : EV} {X : XT} {c0 : Nat} (hc0 : HC X 10 c0) {S : St} {q : Int × St} (h : fn_FP_matching c0 S = some q) : Ev E M_FP_matching [.ref c0] (WX X S) 0 0 (KI X q.1 q.2) := by
  refine Ev.of pn_FP rfl (leK rfl) ?_
  show Go E M_FP_matching 0 0 0 [(0, .ref c0)] [] (WX X S) 0 0 (KI X q.1 q.2)
  unfold fn_FP_matching at h
  refine g_aloadn (pc := 0) (i0 := 0) (j := 0) (dK D_FP_matching 0 rfl) rfl rfl ?_
  refine vg_getO (pc := 1) (ci := 10) (f := 2) (dK D_FP_matching 1 rfl) q_435 hc0 (ltK rfl) (ltK rfl) rfl ?_
  refine bnE h (fun p1 e_p1 h => ?_)
  refine vg_cV (pc := 4) (As := []) (rest := []) (mc' := 0) (ms' := 0) (dK D_FP_matching 2 rfl) K_FP_301 (fitK rfl) (ltK rfl) (hw_10_2 hc0) rfl (leK rfl) (leK rfl) (leK rfl) (tf_Searches_matchedAds (hw_10_2 hc0) e_p1) (kcI (fun h_p1 => ?_))
  exact vg_iretI (pc := 7) (r := p1.1) (dK D_FP_matching 3 rfl) rfl (leK rfl) (leK rfl) (fun _ => rfl) (by obtain rfl := Option.some.inj h; exact ⟨rfl, h_p1, rfl⟩)
def fn_FP_describedByte (c0 : Nat) (a1 : Int) (S : St) : Option (Int) := if a1 < 0 then (some (-1)) else (if (g S (tgt c0 5) 1) ≤ a1 then (some (-1)) else (bnO (fn_Bytes_byteAt (tgt c0 5) a1 S) fun p1 => some p1))
theorem tf_FP_describedByte {E : EV} {X : XT} {c0 : Nat} (hc0 : HC X 10 c0) {a1 : Int} (ha1 : inR a1) {S : St} {q : Int} (h : fn_FP_describedByte c0 a1 S = some q) : Ev E M_FP_describedByte [.ref c0, V a1] (WX X S) 0 0 (KI X q S) := by
  refine Ev.of pn_FP rfl (leK rfl) ?_
  show Go E M_FP_describedByte 0 0 0 [(0, .ref c0), (1, V a1)] [] (WX X S) 0 0 (KI X q S)
  unfold fn_FP_describedByte at h
  refine g_iloadn (pc := 0) (i0 := 1) (j := 1) (dK D_FP_describedByte 0 rfl) rfl rfl ?_
  refine vg_if_lt (pc := 1) (t := 26) (dK D_FP_describedByte 1 rfl) rfl ha1 (fun hc3 => ?_) (fun hc3 => ?_)
  · replace h := ifP h hc3
    refine vg_iconst (pc := 26) (dK D_FP_describedByte 12 rfl) ?_
    exact vg_iretI (pc := 27) (r := (-1)) (dK D_FP_describedByte 13 rfl) rfl (leK rfl) (leK rfl) (fun _ => rfl) (by obtain rfl := Option.some.inj h; exact ⟨rfl, (inRk rfl), rfl⟩)
  · replace h := ifN h hc3
    refine g_iloadn (pc := 4) (i0 := 1) (j := 1) (dK D_FP_describedByte 2 rfl) rfl rfl ?_
    refine g_aloadn (pc := 5) (i0 := 0) (j := 0) (dK D_FP_describedByte 3 rfl) rfl rfl ?_
    refine vg_getO (pc := 6) (ci := 10) (f := 5) (dK D_FP_describedByte 4 rfl) q_438 hc0 (ltK rfl) (ltK rfl) rfl ?_
    refine vg_getI (pc := 9) (ci := 1) (f := 1) (dK D_FP_describedByte 5 rfl) q_61 (hw_10_5 hc0) (ltK rfl) (ltK rfl) rfl ?_
    refine vg_icmp_ge (pc := 12) (t := 26) (dK D_FP_describedByte 6 rfl) rfl ha1 (g_in _ _ _) (fun hc2 => ?_) (fun hc2 => ?_)
    · replace h := ifP h hc2
      refine vg_iconst (pc := 26) (dK D_FP_describedByte 12 rfl) ?_
      exact vg_iretI (pc := 27) (r := (-1)) (dK D_FP_describedByte 13 rfl) rfl (leK rfl) (leK rfl) (fun _ => rfl) (by obtain rfl := Option.some.inj h; exact ⟨rfl, (inRk rfl), rfl⟩)
    · replace h := ifN h hc2
      refine g_aloadn (pc := 15) (i0 := 0) (j := 0) (dK D_FP_describedByte 7 rfl) rfl rfl ?_
      refine vg_getO (pc := 16) (ci := 10) (f := 5) (dK D_FP_describedByte 8 rfl) q_438 hc0 (ltK rfl) (ltK rfl) rfl ?_
      refine g_iloadn (pc := 19) (i0 := 1) (j := 1) (dK D_FP_describedByte 9 rfl) rfl rfl ?_
      refine bnE h (fun p1 e_p1 h => ?_)
      refine vg_cV (pc := 20) (As := [V a1]) (rest := []) (mc' := 0) (ms' := 0) (dK D_FP_describedByte 10 rfl) K_FP_355 (fitK rfl) (ltK rfl) (hw_10_5 hc0) rfl (leK rfl) (leK rfl) (leK rfl) (tf_Bytes_byteAt (hw_10_5 hc0) ha1 e_p1) (kcI (fun h_p1 => ?_))
      refine g_goto (pc := 23) (tgt := 27) (dK D_FP_describedByte 11 rfl) rfl ?_
      exact vg_iretI (pc := 27) (r := p1) (dK D_FP_describedByte 13 rfl) rfl (leK rfl) (leK rfl) (fun _ => rfl) (by obtain rfl := Option.some.inj h; exact ⟨rfl, h_p1, rfl⟩)
def fn_History_bringBack (c0 : Nat) (c1 : Nat) (S : St) : Option (Bool × St) := if (g S c0 2) = 0 then (some (false, S)) else (if (g S c0 1) ≤ 0 then (nm (u S c0 1 19) fun S1 => nm (u S1 c0 2 ((g S1 c0 2) - 1)) fun S2 => if 0 ≤ (g S2 c0 1) ∧ (g S2 c0 1) < 20 then (bnO (fn_Plan_become c1 (tgt (tgt c0 0) (((g S2 c0 1)).toNat)) S2) fun p4 => some (true, p4)) else none) else (nm (u S c0 1 ((g S c0 1) - 1)) fun S5 => nm (u S5 c0 2 ((g S5 c0 2) - 1)) fun S6 => if 0 ≤ (g S6 c0 1) ∧ (g S6 c0 1) < 20 then (bnO (fn_Plan_become c1 (tgt (tgt c0 0) (((g S6 c0 1)).toNat)) S6) fun p8 => some (true, p8)) else none))
theorem tf_History_bringBack {E : EV} {X : XT} {c0 : Nat} (hc0 : HC X 3 c0) {c1 : Nat} (hc1 : HC X 4 c1) {S : St} {q : Bool × St} (h : fn_History_bringBack c0 c1 S = some q) : Ev E M_History_bringBack [.ref c0, .ref c1] (WX X S) 0 0 (KB X q.1 q.2) := by
  refine Ev.of pn_History rfl (leK rfl) ?_
  show Go E M_History_bringBack 0 0 0 [(0, .ref c0), (1, .ref c1)] [] (WX X S) 0 0 (KB X q.1 q.2)
  unfold fn_History_bringBack at h
  refine g_aloadn (pc := 0) (i0 := 0) (j := 0) (dK D_History_bringBack 0 rfl) rfl rfl ?_
  refine vg_getI (pc := 1) (ci := 3) (f := 2) (dK D_History_bringBack 1 rfl) q_422 hc0 (ltK rfl) (ltK rfl) rfl ?_
  refine vg_if_ne (pc := 4) (t := 9) (dK D_History_bringBack 2 rfl) rfl (g_in _ _ _) (fun hc10 => ?_) (fun hc10 => ?_)
  · replace h := ifN h hc10
    refine g_aloadn (pc := 9) (i0 := 0) (j := 0) (dK D_History_bringBack 5 rfl) rfl rfl ?_
    refine g_aloadn (pc := 10) (i0 := 0) (j := 0) (dK D_History_bringBack 6 rfl) rfl rfl ?_
    refine vg_getI (pc := 11) (ci := 3) (f := 1) (dK D_History_bringBack 7 rfl) q_421 hc0 (ltK rfl) (ltK rfl) rfl ?_
    refine vg_if_le (pc := 14) (t := 26) (dK D_History_bringBack 8 rfl) rfl (g_in _ _ _) (fun hc9 => ?_) (fun hc9 => ?_)
    · replace h := ifP h hc9
      refine vg_bipush (pc := 26) (dK D_History_bringBack 14 rfl) rfl ?_
      refine nmE h (fun S1 e_S1 h => ?_)
      refine vg_putI (pc := 28) (ci := 3) (f := 1) (z := 19) (dK D_History_bringBack 15 rfl) q_421 hc0 (ltK rfl) (ltK rfl) rfl rfl e_S1 ?_
      refine g_aloadn (pc := 31) (i0 := 0) (j := 0) (dK D_History_bringBack 16 rfl) rfl rfl ?_
      refine g_dup (pc := 32) (dK D_History_bringBack 17 rfl) rfl ?_
      refine vg_getI (pc := 33) (ci := 3) (f := 2) (dK D_History_bringBack 18 rfl) q_422 hc0 (ltK rfl) (ltK rfl) rfl ?_
      refine vg_iconst (pc := 36) (dK D_History_bringBack 19 rfl) ?_
      refine vg_isub (pc := 37) (dK D_History_bringBack 20 rfl) ?_
      refine nmE h (fun S2 e_S2 h => ?_)
      refine vg_putI (pc := 38) (ci := 3) (f := 2) (z := ((g S1 c0 2) - 1)) (dK D_History_bringBack 21 rfl) q_422 hc0 (ltK rfl) (ltK rfl) rfl rfl e_S2 ?_
      refine g_aloadn (pc := 41) (i0 := 1) (j := 1) (dK D_History_bringBack 22 rfl) rfl rfl ?_
      refine g_aloadn (pc := 42) (i0 := 0) (j := 0) (dK D_History_bringBack 23 rfl) rfl rfl ?_
      refine vg_getA (pc := 43) (ci := 3) (f := 0) (dK D_History_bringBack 24 rfl) q_420 hc0 (ltK rfl) (ltK rfl) rfl ?_
      refine g_aloadn (pc := 46) (i0 := 0) (j := 0) (dK D_History_bringBack 25 rfl) rfl rfl ?_
      refine vg_getI (pc := 47) (ci := 3) (f := 1) (dK D_History_bringBack 26 rfl) q_421 hc0 (ltK rfl) (ltK rfl) rfl ?_
      refine gdE h (fun hi3 h => ?_)
      refine vg_aaload (pc := 50) (j := ((g S2 c0 1)).toNat) (dK D_History_bringBack 27 rfl) (hw_3_0 hc0) rfl hi3 rfl ?_
      refine bnE h (fun p4 e_p4 h => ?_)
      refine vg_cV (pc := 51) (As := [.ref (tgt (tgt c0 0) (((g S2 c0 1)).toNat))]) (rest := []) (mc' := 0) (ms' := 0) (dK D_History_bringBack 28 rfl) K_History_35 (fitK rfl) (ltK rfl) hc1 rfl (leK rfl) (leK rfl) (leK rfl) (tf_Plan_become hc1 (hw_kept (hw_3_0 hc0) (ix_lt hi3)) e_p4) (kcU ?_)
      refine vg_iconst (pc := 54) (dK D_History_bringBack 29 rfl) ?_
      exact vg_iretB (pc := 55) (b := true) (dK D_History_bringBack 30 rfl) rfl (leK rfl) (leK rfl) (fun _ => rfl) (by obtain rfl := Option.some.inj h; exact ⟨rfl, rfl⟩)
    · replace h := ifN h hc9
      refine g_aloadn (pc := 17) (i0 := 0) (j := 0) (dK D_History_bringBack 9 rfl) rfl rfl ?_
      refine vg_getI (pc := 18) (ci := 3) (f := 1) (dK D_History_bringBack 10 rfl) q_421 hc0 (ltK rfl) (ltK rfl) rfl ?_
      refine vg_iconst (pc := 21) (dK D_History_bringBack 11 rfl) ?_
      refine vg_isub (pc := 22) (dK D_History_bringBack 12 rfl) ?_
      refine g_goto (pc := 23) (tgt := 28) (dK D_History_bringBack 13 rfl) rfl ?_
      refine nmE h (fun S5 e_S5 h => ?_)
      refine vg_putI (pc := 28) (ci := 3) (f := 1) (z := ((g S c0 1) - 1)) (dK D_History_bringBack 15 rfl) q_421 hc0 (ltK rfl) (ltK rfl) rfl rfl e_S5 ?_
      refine g_aloadn (pc := 31) (i0 := 0) (j := 0) (dK D_History_bringBack 16 rfl) rfl rfl ?_
      refine g_dup (pc := 32) (dK D_History_bringBack 17 rfl) rfl ?_
      refine vg_getI (pc := 33) (ci := 3) (f := 2) (dK D_History_bringBack 18 rfl) q_422 hc0 (ltK rfl) (ltK rfl) rfl ?_
      refine vg_iconst (pc := 36) (dK D_History_bringBack 19 rfl) ?_
      refine vg_isub (pc := 37) (dK D_History_bringBack 20 rfl) ?_
      refine nmE h (fun S6 e_S6 h => ?_)
      refine vg_putI (pc := 38) (ci := 3) (f := 2) (z := ((g S5 c0 2) - 1)) (dK D_History_bringBack 21 rfl) q_422 hc0 (ltK rfl) (ltK rfl) rfl rfl e_S6 ?_
      refine g_aloadn (pc := 41) (i0 := 1) (j := 1) (dK D_History_bringBack 22 rfl) rfl rfl ?_
      refine g_aloadn (pc := 42) (i0 := 0) (j := 0) (dK D_History_bringBack 23 rfl) rfl rfl ?_
      refine vg_getA (pc := 43) (ci := 3) (f := 0) (dK D_History_bringBack 24 rfl) q_420 hc0 (ltK rfl) (ltK rfl) rfl ?_
      refine g_aloadn (pc := 46) (i0 := 0) (j := 0) (dK D_History_bringBack 25 rfl) rfl rfl ?_
      refine vg_getI (pc := 47) (ci := 3) (f := 1) (dK D_History_bringBack 26 rfl) q_421 hc0 (ltK rfl) (ltK rfl) rfl ?_
      refine gdE h (fun hi7 h => ?_)
      refine vg_aaload (pc := 50) (j := ((g S6 c0 1)).toNat) (dK D_History_bringBack 27 rfl) (hw_3_0 hc0) rfl hi7 rfl ?_
      refine bnE h (fun p8 e_p8 h => ?_)
      refine vg_cV (pc := 51) (As := [.ref (tgt (tgt c0 0) (((g S6 c0 1)).toNat))]) (rest := []) (mc' := 0) (ms' := 0) (dK D_History_bringBack 28 rfl) K_History_35 (fitK rfl) (ltK rfl) hc1 rfl (leK rfl) (leK rfl) (leK rfl) (tf_Plan_become hc1 (hw_kept (hw_3_0 hc0) (ix_lt hi7)) e_p8) (kcU ?_)
      refine vg_iconst (pc := 54) (dK D_History_bringBack 29 rfl) ?_
      exact vg_iretB (pc := 55) (b := true) (dK D_History_bringBack 30 rfl) rfl (leK rfl) (leK rfl) (fun _ => rfl) (by obtain rfl := Option.some.inj h; exact ⟨rfl, rfl⟩)
  · replace h := ifP h hc10
    refine vg_iconst (pc := 7) (dK D_History_bringBack 3 rfl) ?_
    exact vg_iretB (pc := 8) (b := false) (dK D_History_bringBack 4 rfl) rfl (leK rfl) (leK rfl) (fun _ => rfl) (by obtain rfl := Option.some.inj h; exact ⟨rfl, rfl⟩)
def fn_FP_undo (c0 : Nat) (S : St) : Option (Bool × St) := bnO (fn_History_bringBack (tgt c0 4) (tgt c0 3) S) fun p1 => some (p1.1, p1.2)
theorem tf_FP_undo {E : EV} {X : XT} {c0 : Nat} (hc0 : HC X 10 c0) {S : St} {q : Bool × St} (h : fn_FP_undo c0 S = some q) : Ev E M_FP_undo [.ref c0] (WX X S) 0 0 (KB X q.1 q.2) := by
  refine Ev.of pn_FP rfl (leK rfl) ?_
  show Go E M_FP_undo 0 0 0 [(0, .ref c0)] [] (WX X S) 0 0 (KB X q.1 q.2)
  unfold fn_FP_undo at h
  refine g_aloadn (pc := 0) (i0 := 0) (j := 0) (dK D_FP_undo 0 rfl) rfl rfl ?_
  refine vg_getO (pc := 1) (ci := 10) (f := 4) (dK D_FP_undo 1 rfl) q_437 hc0 (ltK rfl) (ltK rfl) rfl ?_
  refine g_aloadn (pc := 4) (i0 := 0) (j := 0) (dK D_FP_undo 2 rfl) rfl rfl ?_
  refine vg_getO (pc := 5) (ci := 10) (f := 3) (dK D_FP_undo 3 rfl) q_436 hc0 (ltK rfl) (ltK rfl) rfl ?_
  refine bnE h (fun p1 e_p1 h => ?_)
  refine vg_cV (pc := 8) (As := [.ref (tgt c0 3)]) (rest := []) (mc' := 0) (ms' := 0) (dK D_FP_undo 4 rfl) K_FP_358 (fitK rfl) (ltK rfl) (hw_10_4 hc0) rfl (leK rfl) (leK rfl) (leK rfl) (tf_History_bringBack (hw_10_4 hc0) (hw_10_3 hc0) e_p1) (kcB ?_)
  exact vg_iretB (pc := 11) (b := p1.1) (dK D_FP_undo 5 rfl) rfl (leK rfl) (leK rfl) (fun _ => rfl) (by obtain rfl := Option.some.inj h; exact ⟨rfl, rfl⟩)
def fn_FP_truncateInput (c0 : Nat) (a1 : Int) (S : St) : Option (Int × St) := if a1 < 0 then (some ((-1), S)) else (if a1 ≤ (g S (tgt c0 1) 1) then (nm (u S (tgt c0 1) 1 a1) fun S1 => some (a1, S1)) else (some ((-1), S)))
theorem tf_FP_truncateInput {E : EV} {X : XT} {c0 : Nat} (hc0 : HC X 10 c0) {a1 : Int} (ha1 : inR a1) {S : St} {q : Int × St} (h : fn_FP_truncateInput c0 a1 S = some q) : Ev E M_FP_truncateInput [.ref c0, V a1] (WX X S) 0 0 (KI X q.1 q.2) := by
  refine Ev.of pn_FP rfl (leK rfl) ?_
  show Go E M_FP_truncateInput 0 0 0 [(0, .ref c0), (1, V a1)] [] (WX X S) 0 0 (KI X q.1 q.2)
  unfold fn_FP_truncateInput at h
  refine g_iloadn (pc := 0) (i0 := 1) (j := 1) (dK D_FP_truncateInput 0 rfl) rfl rfl ?_
  refine vg_if_lt (pc := 1) (t := 15) (dK D_FP_truncateInput 1 rfl) rfl ha1 (fun hc3 => ?_) (fun hc3 => ?_)
  · replace h := ifP h hc3
    refine vg_iconst (pc := 15) (dK D_FP_truncateInput 7 rfl) ?_
    exact vg_iretI (pc := 16) (r := (-1)) (dK D_FP_truncateInput 8 rfl) rfl (leK rfl) (leK rfl) (fun _ => rfl) (by obtain rfl := Option.some.inj h; exact ⟨rfl, (inRk rfl), rfl⟩)
  · replace h := ifN h hc3
    refine g_iloadn (pc := 4) (i0 := 1) (j := 1) (dK D_FP_truncateInput 2 rfl) rfl rfl ?_
    refine g_aloadn (pc := 5) (i0 := 0) (j := 0) (dK D_FP_truncateInput 3 rfl) rfl rfl ?_
    refine vg_getO (pc := 6) (ci := 10) (f := 1) (dK D_FP_truncateInput 4 rfl) q_434 hc0 (ltK rfl) (ltK rfl) rfl ?_
    refine vg_getI (pc := 9) (ci := 1) (f := 1) (dK D_FP_truncateInput 5 rfl) q_61 (hw_10_1 hc0) (ltK rfl) (ltK rfl) rfl ?_
    refine vg_icmp_le (pc := 12) (t := 17) (dK D_FP_truncateInput 6 rfl) rfl ha1 (g_in _ _ _) (fun hc2 => ?_) (fun hc2 => ?_)
    · replace h := ifP h hc2
      refine g_aloadn (pc := 17) (i0 := 0) (j := 0) (dK D_FP_truncateInput 9 rfl) rfl rfl ?_
      refine vg_getO (pc := 18) (ci := 10) (f := 1) (dK D_FP_truncateInput 10 rfl) q_434 hc0 (ltK rfl) (ltK rfl) rfl ?_
      refine g_iloadn (pc := 21) (i0 := 1) (j := 1) (dK D_FP_truncateInput 11 rfl) rfl rfl ?_
      refine nmE h (fun S1 e_S1 h => ?_)
      refine vg_putI (pc := 22) (ci := 1) (f := 1) (z := a1) (dK D_FP_truncateInput 12 rfl) q_61 (hw_10_1 hc0) (ltK rfl) (ltK rfl) rfl rfl e_S1 ?_
      refine g_iloadn (pc := 25) (i0 := 1) (j := 1) (dK D_FP_truncateInput 13 rfl) rfl rfl ?_
      exact vg_iretI (pc := 26) (r := a1) (dK D_FP_truncateInput 14 rfl) rfl (leK rfl) (leK rfl) (fun _ => rfl) (by obtain rfl := Option.some.inj h; exact ⟨rfl, ha1, rfl⟩)
    · replace h := ifN h hc2
      refine vg_iconst (pc := 15) (dK D_FP_truncateInput 7 rfl) ?_
      exact vg_iretI (pc := 16) (r := (-1)) (dK D_FP_truncateInput 8 rfl) rfl (leK rfl) (leK rfl) (fun _ => rfl) (by obtain rfl := Option.some.inj h; exact ⟨rfl, (inRk rfl), rfl⟩)
def fn_Bytes_addByte (c0 : Nat) (a1 : Int) (S : St) : Option (St) := if (g S c0 1) < 0 then (some S) else (if (((ln (tgt c0 0)) : Nat) : Int) ≤ (g S c0 1) then (some S) else (if 0 ≤ (g S c0 1) ∧ (g S c0 1) < (((ln (tgt c0 0)) : Nat) : Int) then (nm (u S (tgt c0 0) (((g S c0 1)).toNat) (i_and a1 255)) fun S2 => nm (u S2 c0 1 ((g S2 c0 1) + 1)) fun S3 => some S3) else none))
theorem tf_Bytes_addByte {E : EV} {X : XT} {c0 : Nat} (hc0 : HC X 1 c0) {a1 : Int} (ha1 : inR a1) {S : St} {q : St} (h : fn_Bytes_addByte c0 a1 S = some q) : Ev E M_Bytes_addByte [.ref c0, V a1] (WX X S) 0 0 (KU X q) := by
  refine Ev.of pn_Bytes rfl (leK rfl) ?_
  show Go E M_Bytes_addByte 0 0 0 [(0, .ref c0), (1, V a1)] [] (WX X S) 0 0 (KU X q)
  unfold fn_Bytes_addByte at h
  refine g_aloadn (pc := 0) (i0 := 0) (j := 0) (dK D_Bytes_addByte 0 rfl) rfl rfl ?_
  refine vg_getI (pc := 1) (ci := 1) (f := 1) (dK D_Bytes_addByte 1 rfl) q_60 hc0 (ltK rfl) (ltK rfl) rfl ?_
  refine vg_if_lt (pc := 4) (t := 43) (dK D_Bytes_addByte 2 rfl) rfl (g_in _ _ _) (fun hc5 => ?_) (fun hc5 => ?_)
  · replace h := ifP h hc5
    exact g_return (pc := 43) (dK D_Bytes_addByte 23 rfl) rfl (leK rfl) (leK rfl) (fun _ => rfl) (by obtain rfl := Option.some.inj h; exact ⟨rfl, rfl⟩)
  · replace h := ifN h hc5
    refine g_aloadn (pc := 7) (i0 := 0) (j := 0) (dK D_Bytes_addByte 3 rfl) rfl rfl ?_
    refine vg_getI (pc := 8) (ci := 1) (f := 1) (dK D_Bytes_addByte 4 rfl) q_60 hc0 (ltK rfl) (ltK rfl) rfl ?_
    refine g_aloadn (pc := 11) (i0 := 0) (j := 0) (dK D_Bytes_addByte 5 rfl) rfl rfl ?_
    refine vg_getA (pc := 12) (ci := 1) (f := 0) (dK D_Bytes_addByte 6 rfl) q_59 hc0 (ltK rfl) (ltK rfl) rfl ?_
    refine vg_alen (pc := 15) (dK D_Bytes_addByte 7 rfl) (ltK rfl) (hw_1_0 hc0) ?_
    refine vg_icmp_ge (pc := 16) (t := 43) (dK D_Bytes_addByte 8 rfl) rfl (g_in _ _ _) (inR_nat (lnAll _ (hw_1_0 hc0).is.1)) (fun hc4 => ?_) (fun hc4 => ?_)
    · replace h := ifP h hc4
      exact g_return (pc := 43) (dK D_Bytes_addByte 23 rfl) rfl (leK rfl) (leK rfl) (fun _ => rfl) (by obtain rfl := Option.some.inj h; exact ⟨rfl, rfl⟩)
    · replace h := ifN h hc4
      refine g_aloadn (pc := 19) (i0 := 0) (j := 0) (dK D_Bytes_addByte 9 rfl) rfl rfl ?_
      refine vg_getA (pc := 20) (ci := 1) (f := 0) (dK D_Bytes_addByte 10 rfl) q_59 hc0 (ltK rfl) (ltK rfl) rfl ?_
      refine g_aloadn (pc := 23) (i0 := 0) (j := 0) (dK D_Bytes_addByte 11 rfl) rfl rfl ?_
      refine vg_getI (pc := 24) (ci := 1) (f := 1) (dK D_Bytes_addByte 12 rfl) q_60 hc0 (ltK rfl) (ltK rfl) rfl ?_
      refine g_iloadn (pc := 27) (i0 := 1) (j := 1) (dK D_Bytes_addByte 13 rfl) rfl rfl ?_
      refine vg_sipush (pc := 28) (dK D_Bytes_addByte 14 rfl) rfl ?_
      refine vg_iand (pc := 31) (dK D_Bytes_addByte 15 rfl) ?_
      refine gdE h (fun hi1 h => ?_)
      refine nmE h (fun S2 e_S2 h => ?_)
      refine vg_iastore (pc := 32) (z := (i_and a1 255)) (dK D_Bytes_addByte 16 rfl) (hw_1_0 hc0) (lnAll _ (hw_1_0 hc0).is.1) hi1 rfl e_S2 ?_
      refine g_aloadn (pc := 33) (i0 := 0) (j := 0) (dK D_Bytes_addByte 17 rfl) rfl rfl ?_
      refine g_dup (pc := 34) (dK D_Bytes_addByte 18 rfl) rfl ?_
      refine vg_getI (pc := 35) (ci := 1) (f := 1) (dK D_Bytes_addByte 19 rfl) q_60 hc0 (ltK rfl) (ltK rfl) rfl ?_
      refine vg_iconst (pc := 38) (dK D_Bytes_addByte 20 rfl) ?_
      refine vg_iadd (pc := 39) (dK D_Bytes_addByte 21 rfl) ?_
      refine nmE h (fun S3 e_S3 h => ?_)
      refine vg_putI (pc := 40) (ci := 1) (f := 1) (z := ((g S2 c0 1) + 1)) (dK D_Bytes_addByte 22 rfl) q_60 hc0 (ltK rfl) (ltK rfl) rfl rfl e_S3 ?_
      exact g_return (pc := 43) (dK D_Bytes_addByte 23 rfl) rfl (leK rfl) (leK rfl) (fun _ => rfl) (by obtain rfl := Option.some.inj h; exact ⟨rfl, rfl⟩)
def fn_Bytes_addWord (c0 : Nat) (a1 : Int) (S : St) : Option (St) := bnO (fn_Bytes_addByte c0 (i_shr a1 24) S) fun p1 => bnO (fn_Bytes_addByte c0 (i_shr a1 16) p1) fun p2 => bnO (fn_Bytes_addByte c0 (i_shr a1 8) p2) fun p3 => bnO (fn_Bytes_addByte c0 a1 p3) fun p4 => some p4
theorem tf_Bytes_addWord {E : EV} {X : XT} {c0 : Nat} (hc0 : HC X 1 c0) {a1 : Int} (ha1 : inR a1) {S : St} {q : St} (h : fn_Bytes_addWord c0 a1 S = some q) : Ev E M_Bytes_addWord [.ref c0, V a1] (WX X S) 0 0 (KU X q) := by
  refine Ev.of pn_Bytes rfl (leK rfl) ?_
  show Go E M_Bytes_addWord 0 0 0 [(0, .ref c0), (1, V a1)] [] (WX X S) 0 0 (KU X q)
  unfold fn_Bytes_addWord at h
  refine g_aloadn (pc := 0) (i0 := 0) (j := 0) (dK D_Bytes_addWord 0 rfl) rfl rfl ?_
  refine g_iloadn (pc := 1) (i0 := 1) (j := 1) (dK D_Bytes_addWord 1 rfl) rfl rfl ?_
  refine vg_bipush (pc := 2) (dK D_Bytes_addWord 2 rfl) rfl ?_
  refine vg_ishr (pc := 4) (dK D_Bytes_addWord 3 rfl) ?_
  refine bnE h (fun p1 e_p1 h => ?_)
  refine vg_cV (pc := 5) (As := [V (i_shr a1 24)]) (rest := []) (mc' := 0) (ms' := 0) (dK D_Bytes_addWord 4 rfl) K_Bytes_19 (fitK rfl) (ltK rfl) hc0 rfl (leK rfl) (leK rfl) (leK rfl) (tf_Bytes_addByte hc0 (toInt_in _) e_p1) (kcU ?_)
  refine g_aloadn (pc := 8) (i0 := 0) (j := 0) (dK D_Bytes_addWord 5 rfl) rfl rfl ?_
  refine g_iloadn (pc := 9) (i0 := 1) (j := 1) (dK D_Bytes_addWord 6 rfl) rfl rfl ?_
  refine vg_bipush (pc := 10) (dK D_Bytes_addWord 7 rfl) rfl ?_
  refine vg_ishr (pc := 12) (dK D_Bytes_addWord 8 rfl) ?_
  refine bnE h (fun p2 e_p2 h => ?_)
  refine vg_cV (pc := 13) (As := [V (i_shr a1 16)]) (rest := []) (mc' := 0) (ms' := 0) (dK D_Bytes_addWord 9 rfl) K_Bytes_19 (fitK rfl) (ltK rfl) hc0 rfl (leK rfl) (leK rfl) (leK rfl) (tf_Bytes_addByte hc0 (toInt_in _) e_p2) (kcU ?_)
  refine g_aloadn (pc := 16) (i0 := 0) (j := 0) (dK D_Bytes_addWord 10 rfl) rfl rfl ?_
  refine g_iloadn (pc := 17) (i0 := 1) (j := 1) (dK D_Bytes_addWord 11 rfl) rfl rfl ?_
  refine vg_bipush (pc := 18) (dK D_Bytes_addWord 12 rfl) rfl ?_
  refine vg_ishr (pc := 20) (dK D_Bytes_addWord 13 rfl) ?_
  refine bnE h (fun p3 e_p3 h => ?_)
  refine vg_cV (pc := 21) (As := [V (i_shr a1 8)]) (rest := []) (mc' := 0) (ms' := 0) (dK D_Bytes_addWord 14 rfl) K_Bytes_19 (fitK rfl) (ltK rfl) hc0 rfl (leK rfl) (leK rfl) (leK rfl) (tf_Bytes_addByte hc0 (toInt_in _) e_p3) (kcU ?_)
  refine g_aloadn (pc := 24) (i0 := 0) (j := 0) (dK D_Bytes_addWord 15 rfl) rfl rfl ?_
  refine g_iloadn (pc := 25) (i0 := 1) (j := 1) (dK D_Bytes_addWord 16 rfl) rfl rfl ?_
  refine bnE h (fun p4 e_p4 h => ?_)
  refine vg_cV (pc := 26) (As := [V a1]) (rest := []) (mc' := 0) (ms' := 0) (dK D_Bytes_addWord 17 rfl) K_Bytes_19 (fitK rfl) (ltK rfl) hc0 rfl (leK rfl) (leK rfl) (leK rfl) (tf_Bytes_addByte hc0 ha1 e_p4) (kcU ?_)
  exact g_return (pc := 29) (dK D_Bytes_addWord 18 rfl) rfl (leK rfl) (leK rfl) (fun _ => rfl) (by obtain rfl := Option.some.inj h; exact ⟨rfl, rfl⟩)
def fn_FP_appendInput (c0 : Nat) (a1 : Int) (a2 : Int) (a3 : Int) (a4 : Int) (a5 : Int) (S : St) : Option (Int × St) := nm (wr ((g S (tgt c0 1) 1) + 20)) fun v1 => if v1 ≤ 1600 then (bnO (fn_Bytes_addWord (tgt c0 1) a1 S) fun p2 => bnO (fn_Bytes_addWord (tgt c0 1) a2 p2) fun p3 => bnO (fn_Bytes_addWord (tgt c0 1) a3 p3) fun p4 => bnO (fn_Bytes_addWord (tgt c0 1) a4 p4) fun p5 => bnO (fn_Bytes_addWord (tgt c0 1) a5 p5) fun p6 => some ((g p6 (tgt c0 1) 1), p6)) else (some ((-1), S))
theorem tf_FP_appendInput {E : EV} {X : XT} {c0 : Nat} (hc0 : HC X 10 c0) {a1 : Int} (ha1 : inR a1) {a2 : Int} (ha2 : inR a2) {a3 : Int} (ha3 : inR a3) {a4 : Int} (ha4 : inR a4) {a5 : Int} (ha5 : inR a5) {S : St} {q : Int × St} (h : fn_FP_appendInput c0 a1 a2 a3 a4 a5 S = some q) : Ev E M_FP_appendInput [.ref c0, V a1, V a2, V a3, V a4, V a5] (WX X S) 0 0 (KI X q.1 q.2) := by
  refine Ev.of pn_FP rfl (leK rfl) ?_
  show Go E M_FP_appendInput 0 0 0 [(0, .ref c0), (1, V a1), (2, V a2), (3, V a3), (4, V a4), (5, V a5)] [] (WX X S) 0 0 (KI X q.1 q.2)
  unfold fn_FP_appendInput at h
  refine g_aloadn (pc := 0) (i0 := 0) (j := 0) (dK D_FP_appendInput 0 rfl) rfl rfl ?_
  refine vg_getO (pc := 1) (ci := 10) (f := 1) (dK D_FP_appendInput 1 rfl) q_434 hc0 (ltK rfl) (ltK rfl) rfl ?_
  refine vg_getI (pc := 4) (ci := 1) (f := 1) (dK D_FP_appendInput 2 rfl) q_61 (hw_10_1 hc0) (ltK rfl) (ltK rfl) rfl ?_
  refine vg_bipush (pc := 7) (dK D_FP_appendInput 3 rfl) rfl ?_
  refine vg_iadd (pc := 9) (dK D_FP_appendInput 4 rfl) ?_
  refine vg_sipush (pc := 10) (dK D_FP_appendInput 5 rfl) rfl ?_
  refine nmE h (fun v1 e_v1 h => ?_)
  refine gsk (st' := [V 1600, V v1]) (by rw [Vn e_v1]) ?_
  refine vg_icmp_le (pc := 13) (t := 18) (dK D_FP_appendInput 6 rfl) rfl (Vn_in e_v1) (inRk rfl) (fun hc7 => ?_) (fun hc7 => ?_)
  · replace h := ifP h hc7
    refine g_aloadn (pc := 18) (i0 := 0) (j := 0) (dK D_FP_appendInput 9 rfl) rfl rfl ?_
    refine vg_getO (pc := 19) (ci := 10) (f := 1) (dK D_FP_appendInput 10 rfl) q_434 hc0 (ltK rfl) (ltK rfl) rfl ?_
    refine g_iloadn (pc := 22) (i0 := 1) (j := 1) (dK D_FP_appendInput 11 rfl) rfl rfl ?_
    refine bnE h (fun p2 e_p2 h => ?_)
    refine vg_cV (pc := 23) (As := [V a1]) (rest := []) (mc' := 0) (ms' := 0) (dK D_FP_appendInput 12 rfl) K_FP_54 (fitK rfl) (ltK rfl) (hw_10_1 hc0) rfl (leK rfl) (leK rfl) (leK rfl) (tf_Bytes_addWord (hw_10_1 hc0) ha1 e_p2) (kcU ?_)
    refine g_aloadn (pc := 26) (i0 := 0) (j := 0) (dK D_FP_appendInput 13 rfl) rfl rfl ?_
    refine vg_getO (pc := 27) (ci := 10) (f := 1) (dK D_FP_appendInput 14 rfl) q_434 hc0 (ltK rfl) (ltK rfl) rfl ?_
    refine g_iloadn (pc := 30) (i0 := 2) (j := 2) (dK D_FP_appendInput 15 rfl) rfl rfl ?_
    refine bnE h (fun p3 e_p3 h => ?_)
    refine vg_cV (pc := 31) (As := [V a2]) (rest := []) (mc' := 0) (ms' := 0) (dK D_FP_appendInput 16 rfl) K_FP_54 (fitK rfl) (ltK rfl) (hw_10_1 hc0) rfl (leK rfl) (leK rfl) (leK rfl) (tf_Bytes_addWord (hw_10_1 hc0) ha2 e_p3) (kcU ?_)
    refine g_aloadn (pc := 34) (i0 := 0) (j := 0) (dK D_FP_appendInput 17 rfl) rfl rfl ?_
    refine vg_getO (pc := 35) (ci := 10) (f := 1) (dK D_FP_appendInput 18 rfl) q_434 hc0 (ltK rfl) (ltK rfl) rfl ?_
    refine g_iloadn (pc := 38) (i0 := 3) (j := 3) (dK D_FP_appendInput 19 rfl) rfl rfl ?_
    refine bnE h (fun p4 e_p4 h => ?_)
    refine vg_cV (pc := 39) (As := [V a3]) (rest := []) (mc' := 0) (ms' := 0) (dK D_FP_appendInput 20 rfl) K_FP_54 (fitK rfl) (ltK rfl) (hw_10_1 hc0) rfl (leK rfl) (leK rfl) (leK rfl) (tf_Bytes_addWord (hw_10_1 hc0) ha3 e_p4) (kcU ?_)
    refine g_aloadn (pc := 42) (i0 := 0) (j := 0) (dK D_FP_appendInput 21 rfl) rfl rfl ?_
    refine vg_getO (pc := 43) (ci := 10) (f := 1) (dK D_FP_appendInput 22 rfl) q_434 hc0 (ltK rfl) (ltK rfl) rfl ?_
    refine g_iload (pc := 46) (j := 4) (dK D_FP_appendInput 23 rfl) rfl ?_
    refine bnE h (fun p5 e_p5 h => ?_)
    refine vg_cV (pc := 48) (As := [V a4]) (rest := []) (mc' := 0) (ms' := 0) (dK D_FP_appendInput 24 rfl) K_FP_54 (fitK rfl) (ltK rfl) (hw_10_1 hc0) rfl (leK rfl) (leK rfl) (leK rfl) (tf_Bytes_addWord (hw_10_1 hc0) ha4 e_p5) (kcU ?_)
    refine g_aloadn (pc := 51) (i0 := 0) (j := 0) (dK D_FP_appendInput 25 rfl) rfl rfl ?_
    refine vg_getO (pc := 52) (ci := 10) (f := 1) (dK D_FP_appendInput 26 rfl) q_434 hc0 (ltK rfl) (ltK rfl) rfl ?_
    refine g_iload (pc := 55) (j := 5) (dK D_FP_appendInput 27 rfl) rfl ?_
    refine bnE h (fun p6 e_p6 h => ?_)
    refine vg_cV (pc := 57) (As := [V a5]) (rest := []) (mc' := 0) (ms' := 0) (dK D_FP_appendInput 28 rfl) K_FP_54 (fitK rfl) (ltK rfl) (hw_10_1 hc0) rfl (leK rfl) (leK rfl) (leK rfl) (tf_Bytes_addWord (hw_10_1 hc0) ha5 e_p6) (kcU ?_)
    refine g_aloadn (pc := 60) (i0 := 0) (j := 0) (dK D_FP_appendInput 29 rfl) rfl rfl ?_
    refine vg_getO (pc := 61) (ci := 10) (f := 1) (dK D_FP_appendInput 30 rfl) q_434 hc0 (ltK rfl) (ltK rfl) rfl ?_
    refine vg_getI (pc := 64) (ci := 1) (f := 1) (dK D_FP_appendInput 31 rfl) q_61 (hw_10_1 hc0) (ltK rfl) (ltK rfl) rfl ?_
    exact vg_iretI (pc := 67) (r := (g p6 (tgt c0 1) 1)) (dK D_FP_appendInput 32 rfl) rfl (leK rfl) (leK rfl) (fun _ => rfl) (by obtain rfl := Option.some.inj h; exact ⟨rfl, (g_in _ _ _), rfl⟩)
  · replace h := ifN h hc7
    refine vg_iconst (pc := 16) (dK D_FP_appendInput 7 rfl) ?_
    exact vg_iretI (pc := 17) (r := (-1)) (dK D_FP_appendInput 8 rfl) rfl (leK rfl) (leK rfl) (fun _ => rfl) (by obtain rfl := Option.some.inj h; exact ⟨rfl, (inRk rfl), rfl⟩)
def fn_FP_needAd (c0 : Nat) (a1 : Int) (S : St) : Option (Nat) := if a1 < 0 then (some 1) else (if a1 < (g S (tgt (tgt (tgt c0 3) 0) 0) 7) then (some 0) else (some 1))
theorem tf_FP_needAd {E : EV} {X : XT} (hfl : X.2.2.2 = false) {c0 : Nat} (hc0 : HC X 10 c0) {a1 : Int} (ha1 : inR a1) {S : St} {q : Nat} (h : fn_FP_needAd c0 a1 S = some q) : Ev E M_FP_needAd [.ref c0, V a1] (WX X S) 1 6 (KT X q S (KU X S)) := by
  refine Ev.of pn_FP rfl (leK rfl) ?_
  show Go E M_FP_needAd 1 6 0 [(0, .ref c0), (1, V a1)] [] (WX X S) 0 0 (KT X q S (KU X S))
  unfold fn_FP_needAd at h
  refine g_iloadn (pc := 0) (i0 := 1) (j := 1) (dK D_FP_needAd 0 rfl) rfl rfl ?_
  refine vg_if_lt (pc := 1) (t := 21) (dK D_FP_needAd 1 rfl) rfl ha1 (fun hc2 => ?_) (fun hc2 => ?_)
  · replace h := ifP h hc2
    exact vg_throwW hfl (pc := 21) TH_FP_363_365 (dK D_FP_needAd 9 rfl) (dK D_FP_needAd 10 rfl) (dK D_FP_needAd 11 rfl) (dK D_FP_needAd 12 rfl) (dK D_FP_needAd 13 rfl) rfl (leK rfl) (leK rfl) (leK rfl) (leK rfl) (leK rfl) (by obtain rfl := Option.some.inj h; exact KT_thr (e := 1) (by decide))
  · replace h := ifN h hc2
    refine g_iloadn (pc := 4) (i0 := 1) (j := 1) (dK D_FP_needAd 2 rfl) rfl rfl ?_
    refine g_aloadn (pc := 5) (i0 := 0) (j := 0) (dK D_FP_needAd 3 rfl) rfl rfl ?_
    refine vg_getO (pc := 6) (ci := 10) (f := 3) (dK D_FP_needAd 4 rfl) q_436 hc0 (ltK rfl) (ltK rfl) rfl ?_
    refine vg_getO (pc := 9) (ci := 4) (f := 0) (dK D_FP_needAd 5 rfl) q_303 (hw_10_3 hc0) (ltK rfl) (ltK rfl) rfl ?_
    refine vg_getO (pc := 12) (ci := 8) (f := 0) (dK D_FP_needAd 6 rfl) q_235 (hw_4_0 (hw_10_3 hc0)) (ltK rfl) (ltK rfl) rfl ?_
    refine vg_getI (pc := 15) (ci := 0) (f := 7) (dK D_FP_needAd 7 rfl) q_120 (hw_8_0 (hw_4_0 (hw_10_3 hc0))) (ltK rfl) (ltK rfl) rfl ?_
    refine vg_icmp_lt (pc := 18) (t := 32) (dK D_FP_needAd 8 rfl) rfl ha1 (g_in _ _ _) (fun hc1 => ?_) (fun hc1 => ?_)
    · replace h := ifP h hc1
      exact g_return (pc := 32) (dK D_FP_needAd 14 rfl) rfl (leK rfl) (leK rfl) (xf hfl) (by obtain rfl := Option.some.inj h; exact KT_ok ⟨rfl, rfl⟩)
    · replace h := ifN h hc1
      exact vg_throwW hfl (pc := 21) TH_FP_363_365 (dK D_FP_needAd 9 rfl) (dK D_FP_needAd 10 rfl) (dK D_FP_needAd 11 rfl) (dK D_FP_needAd 12 rfl) (dK D_FP_needAd 13 rfl) rfl (leK rfl) (leK rfl) (leK rfl) (leK rfl) (leK rfl) (by obtain rfl := Option.some.inj h; exact KT_thr (e := 1) (by decide))
def fn_FP_orNone (a0 : Int) (S : St) : Option (Int) := if a0 = 0 then (some (-1)) else (some a0)
theorem tf_FP_orNone {E : EV} {X : XT} {a0 : Int} (ha0 : inR a0) {S : St} {q : Int} (h : fn_FP_orNone a0 S = some q) : Ev E M_FP_orNone [V a0] (WX X S) 0 0 (KI X q S) := by
  refine Ev.of pn_FP rfl (leK rfl) ?_
  show Go E M_FP_orNone 0 0 0 [(0, V a0)] [] (WX X S) 0 0 (KI X q S)
  unfold fn_FP_orNone at h
  refine g_iloadn (pc := 0) (i0 := 0) (j := 0) (dK D_FP_orNone 0 rfl) rfl rfl ?_
  refine vg_if_ne (pc := 1) (t := 8) (dK D_FP_orNone 1 rfl) rfl ha0 (fun hc1 => ?_) (fun hc1 => ?_)
  · replace h := ifN h hc1
    refine g_iloadn (pc := 8) (i0 := 0) (j := 0) (dK D_FP_orNone 4 rfl) rfl rfl ?_
    exact vg_iretI (pc := 9) (r := a0) (dK D_FP_orNone 5 rfl) rfl (leK rfl) (leK rfl) (fun _ => rfl) (by obtain rfl := Option.some.inj h; exact ⟨rfl, ha0, rfl⟩)
  · replace h := ifP h hc1
    refine vg_iconst (pc := 4) (dK D_FP_orNone 2 rfl) ?_
    refine g_goto (pc := 5) (tgt := 9) (dK D_FP_orNone 3 rfl) rfl ?_
    exact vg_iretI (pc := 9) (r := (-1)) (dK D_FP_orNone 5 rfl) rfl (leK rfl) (leK rfl) (fun _ => rfl) (by obtain rfl := Option.some.inj h; exact ⟨rfl, (inRk rfl), rfl⟩)
def fn_Plan_isLate (c0 : Nat) (a1 : Int) (S : St) : Option (Bool) := if a1 ≤ (g S (tgt c0 0) 6) then (some false) else (some true)
theorem tf_Plan_isLate {E : EV} {X : XT} {c0 : Nat} (hc0 : HC X 4 c0) {a1 : Int} (ha1 : inR a1) {S : St} {q : Bool} (h : fn_Plan_isLate c0 a1 S = some q) : Ev E M_Plan_isLate [.ref c0, V a1] (WX X S) 0 0 (KB X q S) := by
  refine Ev.of pn_Plan rfl (leK rfl) ?_
  show Go E M_Plan_isLate 0 0 0 [(0, .ref c0), (1, V a1)] [] (WX X S) 0 0 (KB X q S)
  unfold fn_Plan_isLate at h
  refine g_aloadn (pc := 0) (i0 := 0) (j := 0) (dK D_Plan_isLate 0 rfl) rfl rfl ?_
  refine vg_getO (pc := 1) (ci := 4) (f := 0) (dK D_Plan_isLate 1 rfl) q_301 hc0 (ltK rfl) (ltK rfl) rfl ?_
  refine vg_getI (pc := 4) (ci := 8) (f := 6) (dK D_Plan_isLate 2 rfl) q_256 (hw_4_0 hc0) (ltK rfl) (ltK rfl) rfl ?_
  refine g_iloadn (pc := 7) (i0 := 1) (j := 1) (dK D_Plan_isLate 3 rfl) rfl rfl ?_
  refine vg_icmp_ge (pc := 8) (t := 15) (dK D_Plan_isLate 4 rfl) rfl (g_in _ _ _) ha1 (fun hc1 => ?_) (fun hc1 => ?_)
  · replace h := ifP h hc1
    refine vg_iconst (pc := 15) (dK D_Plan_isLate 7 rfl) ?_
    exact vg_iretB (pc := 16) (b := false) (dK D_Plan_isLate 8 rfl) rfl (leK rfl) (leK rfl) (fun _ => rfl) (by obtain rfl := Option.some.inj h; exact ⟨rfl, rfl⟩)
  · replace h := ifN h hc1
    refine vg_iconst (pc := 11) (dK D_Plan_isLate 5 rfl) ?_
    refine g_goto (pc := 12) (tgt := 16) (dK D_Plan_isLate 6 rfl) rfl ?_
    exact vg_iretB (pc := 16) (b := true) (dK D_Plan_isLate 8 rfl) rfl (leK rfl) (leK rfl) (fun _ => rfl) (by obtain rfl := Option.some.inj h; exact ⟨rfl, rfl⟩)
def fn_FP_ad (c0 : Nat) (a1 : Int) (a2 : Int) (S : St) : Option (Nat × Int) := bnO (fn_FP_needAd c0 a1 S) fun p1 => if p1 = 0 then (if a2 = 0 then (if 0 ≤ a1 ∧ a1 < 40 then (some (0, (g S (tgt (tgt (tgt (tgt c0 3) 0) 0) 0) a1.toNat))) else none) else if a2 = 1 then (if 0 ≤ a1 ∧ a1 < 40 then (some (0, (g S (tgt (tgt (tgt (tgt c0 3) 0) 0) 1) a1.toNat))) else none) else if a2 = 2 then (if 0 ≤ a1 ∧ a1 < 40 then (some (0, (g S (tgt (tgt (tgt (tgt c0 3) 0) 0) 2) a1.toNat))) else none) else if a2 = 3 then (if 0 ≤ a1 ∧ a1 < 40 then (some (0, (g S (tgt (tgt (tgt (tgt c0 3) 0) 0) 3) a1.toNat))) else none) else if a2 = 4 then (if 0 ≤ a1 ∧ a1 < 40 then (some (0, (g S (tgt (tgt (tgt (tgt c0 3) 0) 0) 4) a1.toNat))) else none) else if a2 = 5 then (if 0 ≤ a1 ∧ a1 < 40 then (some (0, (g S (tgt (tgt (tgt (tgt c0 3) 0) 0) 5) a1.toNat))) else none) else if a2 = 6 then (if 0 ≤ a1 ∧ a1 < 40 then (bnO (fn_FP_orNone (g S (tgt (tgt (tgt (tgt c0 3) 0) 0) 6) a1.toNat) S) fun p16 => some (0, p16)) else none) else if a2 = 7 then (if 0 ≤ a1 ∧ a1 < 40 then (bnO (fn_Plan_isLate (tgt c0 3) (g S (tgt (tgt (tgt (tgt c0 3) 0) 0) 5) a1.toNat) S) fun p19 => if p19 = true then (some (0, 1)) else (some (0, 0))) else none) else (some (0, (-1)))) else (some (p1, 0))
theorem tf_FP_ad {E : EV} {X : XT} (hfl : X.2.2.2 = false) {c0 : Nat} (hc0 : HC X 10 c0) {a1 : Int} (ha1 : inR a1) {a2 : Int} (ha2 : inR a2) {S : St} {q : Nat × Int} (h : fn_FP_ad c0 a1 a2 S = some q) : Ev E M_FP_ad [.ref c0, V a1, V a2] (WX X S) 1 6 (KT X q.1 S (KI X q.2 S)) := by
  refine Ev.of pn_FP rfl (leK rfl) ?_
  show Go E M_FP_ad 1 6 0 [(0, .ref c0), (1, V a1), (2, V a2)] [] (WX X S) 0 0 (KT X q.1 S (KI X q.2 S))
  unfold fn_FP_ad at h
  refine g_aloadn (pc := 0) (i0 := 0) (j := 0) (dK D_FP_ad_0 0 rfl) rfl rfl ?_
  refine g_iloadn (pc := 1) (i0 := 1) (j := 1) (dK D_FP_ad_0 1 rfl) rfl rfl ?_
  refine bnE h (fun p1 e_p1 h => ?_)
  refine vg_cV (pc := 2) (As := [V a1]) (rest := []) (mc' := 1) (ms' := 6) (dK D_FP_ad_0 2 rfl) K_FP_162 (fitK rfl) (ltK rfl) hc0 rfl (leK rfl) (leK rfl) (leK rfl) (tf_FP_needAd hfl hc0 ha1 e_p1) (kcT hfl (fun he21 => kcU ?_) (fun he21 => ⟨rfl, ?_⟩))
  · replace h := ifP h he21
    refine g_aloadn (pc := 5) (i0 := 0) (j := 0) (dK D_FP_ad_0 3 rfl) rfl rfl ?_
    refine vg_getO (pc := 6) (ci := 10) (f := 3) (dK D_FP_ad_0 4 rfl) q_436 hc0 (ltK rfl) (ltK rfl) rfl ?_
    refine vg_getO (pc := 9) (ci := 4) (f := 0) (dK D_FP_ad_0 5 rfl) q_303 (hw_10_3 hc0) (ltK rfl) (ltK rfl) rfl ?_
    refine vg_getO (pc := 12) (ci := 8) (f := 0) (dK D_FP_ad_0 6 rfl) q_235 (hw_4_0 (hw_10_3 hc0)) (ltK rfl) (ltK rfl) rfl ?_
    refine g_astoren (pc := 15) (i0 := 3) (ls2 := [(3, .ref (tgt (tgt (tgt c0 3) 0) 0)), (0, .ref c0), (1, V a1), (2, V a2)]) (dK D_FP_ad_0 7 rfl) rfl (ltK rfl) rfl ?_
    refine g_iloadn (pc := 16) (i0 := 2) (j := 3) (dK D_FP_ad_0 8 rfl) rfl rfl ?_
    by_cases hk2 : a2 = 0
    · have h := ifP h hk2
      refine vg_tabK (pc := 17) (kk := 0) (t := 64) (dK D_FP_ad_0 9 rfl) hk2 rfl rfl rfl rfl ?_
      refine g_aloadn (pc := 64) (i0 := 3) (j := 0) (dK D_FP_ad_0 10 rfl) rfl rfl ?_
      refine vg_getA (pc := 65) (ci := 0) (f := 0) (dK D_FP_ad_0 11 rfl) q_90 (hw_8_0 (hw_4_0 (hw_10_3 hc0))) (ltK rfl) (ltK rfl) rfl ?_
      refine g_iloadn (pc := 68) (i0 := 1) (j := 2) (dK D_FP_ad_0 12 rfl) rfl rfl ?_
      refine gdE h (fun hi3 h => ?_)
      refine vg_iaload (pc := 69) (j := a1.toNat) (dK D_FP_ad_0 13 rfl) (hw_0_0 (hw_8_0 (hw_4_0 (hw_10_3 hc0)))) rfl hi3 rfl ?_
      exact vg_iretI (pc := 70) (r := (g S (tgt (tgt (tgt (tgt c0 3) 0) 0) 0) a1.toNat)) (dK D_FP_ad_0 14 rfl) rfl (leK rfl) (leK rfl) (xf hfl) (by obtain rfl := Option.some.inj h; exact KT_ok ⟨rfl, (g_in _ _ _), rfl⟩)
    replace h := ifN h hk2
    by_cases hk4 : a2 = 1
    · have h := ifP h hk4
      refine vg_tabK (pc := 17) (kk := 1) (t := 71) (dK D_FP_ad_0 9 rfl) hk4 rfl rfl rfl rfl ?_
      refine g_aloadn (pc := 71) (i0 := 3) (j := 0) (dK D_FP_ad_0 15 rfl) rfl rfl ?_
      refine vg_getA (pc := 72) (ci := 0) (f := 1) (dK D_FP_ad_0 16 rfl) q_93 (hw_8_0 (hw_4_0 (hw_10_3 hc0))) (ltK rfl) (ltK rfl) rfl ?_
      refine g_iloadn (pc := 75) (i0 := 1) (j := 2) (dK D_FP_ad_0 17 rfl) rfl rfl ?_
      refine gdE h (fun hi5 h => ?_)
      refine vg_iaload (pc := 76) (j := a1.toNat) (dK D_FP_ad_0 18 rfl) (hw_0_1 (hw_8_0 (hw_4_0 (hw_10_3 hc0)))) rfl hi5 rfl ?_
      exact vg_iretI (pc := 77) (r := (g S (tgt (tgt (tgt (tgt c0 3) 0) 0) 1) a1.toNat)) (dK D_FP_ad_0 19 rfl) rfl (leK rfl) (leK rfl) (xf hfl) (by obtain rfl := Option.some.inj h; exact KT_ok ⟨rfl, (g_in _ _ _), rfl⟩)
    replace h := ifN h hk4
    by_cases hk6 : a2 = 2
    · have h := ifP h hk6
      refine vg_tabK (pc := 17) (kk := 2) (t := 78) (dK D_FP_ad_0 9 rfl) hk6 rfl rfl rfl rfl ?_
      refine g_aloadn (pc := 78) (i0 := 3) (j := 0) (dK D_FP_ad_0 20 rfl) rfl rfl ?_
      refine vg_getA (pc := 79) (ci := 0) (f := 2) (dK D_FP_ad_0 21 rfl) q_96 (hw_8_0 (hw_4_0 (hw_10_3 hc0))) (ltK rfl) (ltK rfl) rfl ?_
      refine g_iloadn (pc := 82) (i0 := 1) (j := 2) (dK D_FP_ad_0 22 rfl) rfl rfl ?_
      refine gdE h (fun hi7 h => ?_)
      refine vg_iaload (pc := 83) (j := a1.toNat) (dK D_FP_ad_0 23 rfl) (hw_0_2 (hw_8_0 (hw_4_0 (hw_10_3 hc0)))) rfl hi7 rfl ?_
      exact vg_iretI (pc := 84) (r := (g S (tgt (tgt (tgt (tgt c0 3) 0) 0) 2) a1.toNat)) (dK D_FP_ad_0 24 rfl) rfl (leK rfl) (leK rfl) (xf hfl) (by obtain rfl := Option.some.inj h; exact KT_ok ⟨rfl, (g_in _ _ _), rfl⟩)
    replace h := ifN h hk6
    by_cases hk8 : a2 = 3
    · have h := ifP h hk8
      refine vg_tabK (pc := 17) (kk := 3) (t := 85) (dK D_FP_ad_0 9 rfl) hk8 rfl rfl rfl rfl ?_
      refine g_aloadn (pc := 85) (i0 := 3) (j := 0) (dK D_FP_ad_0 25 rfl) rfl rfl ?_
      refine vg_getA (pc := 86) (ci := 0) (f := 3) (dK D_FP_ad_0 26 rfl) q_101 (hw_8_0 (hw_4_0 (hw_10_3 hc0))) (ltK rfl) (ltK rfl) rfl ?_
      refine g_iloadn (pc := 89) (i0 := 1) (j := 2) (dK D_FP_ad_0 27 rfl) rfl rfl ?_
      refine gdE h (fun hi9 h => ?_)
      refine vg_iaload (pc := 90) (j := a1.toNat) (dK D_FP_ad_0 28 rfl) (hw_0_3 (hw_8_0 (hw_4_0 (hw_10_3 hc0)))) rfl hi9 rfl ?_
      exact vg_iretI (pc := 91) (r := (g S (tgt (tgt (tgt (tgt c0 3) 0) 0) 3) a1.toNat)) (dK D_FP_ad_0 29 rfl) rfl (leK rfl) (leK rfl) (xf hfl) (by obtain rfl := Option.some.inj h; exact KT_ok ⟨rfl, (g_in _ _ _), rfl⟩)
    replace h := ifN h hk8
    by_cases hk10 : a2 = 4
    · have h := ifP h hk10
      refine vg_tabK (pc := 17) (kk := 4) (t := 92) (dK D_FP_ad_0 9 rfl) hk10 rfl rfl rfl rfl ?_
      refine g_aloadn (pc := 92) (i0 := 3) (j := 0) (dK D_FP_ad_0 30 rfl) rfl rfl ?_
      refine vg_getA (pc := 93) (ci := 0) (f := 4) (dK D_FP_ad_0 31 rfl) q_105 (hw_8_0 (hw_4_0 (hw_10_3 hc0))) (ltK rfl) (ltK rfl) rfl ?_
      refine g_iloadn (pc := 96) (i0 := 1) (j := 2) (dK D_FP_ad_0 32 rfl) rfl rfl ?_
      refine gdE h (fun hi11 h => ?_)
      refine vg_iaload (pc := 97) (j := a1.toNat) (dK D_FP_ad_0 33 rfl) (hw_0_4 (hw_8_0 (hw_4_0 (hw_10_3 hc0)))) rfl hi11 rfl ?_
      exact vg_iretI (pc := 98) (r := (g S (tgt (tgt (tgt (tgt c0 3) 0) 0) 4) a1.toNat)) (dK D_FP_ad_0 34 rfl) rfl (leK rfl) (leK rfl) (xf hfl) (by obtain rfl := Option.some.inj h; exact KT_ok ⟨rfl, (g_in _ _ _), rfl⟩)
    replace h := ifN h hk10
    by_cases hk12 : a2 = 5
    · have h := ifP h hk12
      refine vg_tabK (pc := 17) (kk := 5) (t := 99) (dK D_FP_ad_0 9 rfl) hk12 rfl rfl rfl rfl ?_
      refine g_aloadn (pc := 99) (i0 := 3) (j := 0) (dK D_FP_ad_0 35 rfl) rfl rfl ?_
      refine vg_getA (pc := 100) (ci := 0) (f := 5) (dK D_FP_ad_0 36 rfl) q_108 (hw_8_0 (hw_4_0 (hw_10_3 hc0))) (ltK rfl) (ltK rfl) rfl ?_
      refine g_iloadn (pc := 103) (i0 := 1) (j := 2) (dK D_FP_ad_0 37 rfl) rfl rfl ?_
      refine gdE h (fun hi13 h => ?_)
      refine vg_iaload (pc := 104) (j := a1.toNat) (dK D_FP_ad_0 38 rfl) (hw_0_5 (hw_8_0 (hw_4_0 (hw_10_3 hc0)))) rfl hi13 rfl ?_
      exact vg_iretI (pc := 105) (r := (g S (tgt (tgt (tgt (tgt c0 3) 0) 0) 5) a1.toNat)) (dK D_FP_ad_0 39 rfl) rfl (leK rfl) (leK rfl) (xf hfl) (by obtain rfl := Option.some.inj h; exact KT_ok ⟨rfl, (g_in _ _ _), rfl⟩)
    replace h := ifN h hk12
    by_cases hk14 : a2 = 6
    · have h := ifP h hk14
      refine vg_tabK (pc := 17) (kk := 6) (t := 106) (dK D_FP_ad_0 9 rfl) hk14 rfl rfl rfl rfl ?_
      refine g_aloadn (pc := 106) (i0 := 3) (j := 0) (dK D_FP_ad_0 40 rfl) rfl rfl ?_
      refine vg_getA (pc := 107) (ci := 0) (f := 6) (dK D_FP_ad_0 41 rfl) q_114 (hw_8_0 (hw_4_0 (hw_10_3 hc0))) (ltK rfl) (ltK rfl) rfl ?_
      refine g_iloadn (pc := 110) (i0 := 1) (j := 2) (dK D_FP_ad_0 42 rfl) rfl rfl ?_
      refine gdE h (fun hi15 h => ?_)
      refine vg_iaload (pc := 111) (j := a1.toNat) (dK D_FP_ad_0 43 rfl) (hw_0_6 (hw_8_0 (hw_4_0 (hw_10_3 hc0)))) rfl hi15 rfl ?_
      refine bnE h (fun p16 e_p16 h => ?_)
      refine vg_cS (pc := 112) (As := [V (g S (tgt (tgt (tgt (tgt c0 3) 0) 0) 6) a1.toNat)]) (rest := []) (mc' := 0) (ms' := 0) (dK D_FP_ad_0 44 rfl) K_FP_185 (fitK rfl) rfl (leK rfl) (leK rfl) (leK rfl) (tf_FP_orNone (g_in _ _ _) e_p16) (kcI (fun h_p16 => ?_))
      exact vg_iretI (pc := 115) (r := p16) (dK D_FP_ad_0 45 rfl) rfl (leK rfl) (leK rfl) (xf hfl) (by obtain rfl := Option.some.inj h; exact KT_ok ⟨rfl, h_p16, rfl⟩)
    replace h := ifN h hk14
    by_cases hk17 : a2 = 7
    · have h := ifP h hk17
      refine vg_tabK (pc := 17) (kk := 7) (t := 116) (dK D_FP_ad_0 9 rfl) hk17 rfl rfl rfl rfl ?_
      refine g_aloadn (pc := 116) (i0 := 0) (j := 1) (dK D_FP_ad_0 46 rfl) rfl rfl ?_
      refine vg_getO (pc := 117) (ci := 10) (f := 3) (dK D_FP_ad_0 47 rfl) q_436 hc0 (ltK rfl) (ltK rfl) rfl ?_
      refine g_aloadn (pc := 120) (i0 := 3) (j := 0) (dK D_FP_ad_0 48 rfl) rfl rfl ?_
      refine vg_getA (pc := 121) (ci := 0) (f := 5) (dK D_FP_ad_0 49 rfl) q_108 (hw_8_0 (hw_4_0 (hw_10_3 hc0))) (ltK rfl) (ltK rfl) rfl ?_
      refine g_iloadn (pc := 124) (i0 := 1) (j := 2) (dK D_FP_ad_1 0 rfl) rfl rfl ?_
      refine gdE h (fun hi18 h => ?_)
      refine vg_iaload (pc := 125) (j := a1.toNat) (dK D_FP_ad_1 1 rfl) (hw_0_5 (hw_8_0 (hw_4_0 (hw_10_3 hc0)))) rfl hi18 rfl ?_
      refine bnE h (fun p19 e_p19 h => ?_)
      refine vg_cV (pc := 126) (As := [V (g S (tgt (tgt (tgt (tgt c0 3) 0) 0) 5) a1.toNat)]) (rest := []) (mc' := 0) (ms' := 0) (dK D_FP_ad_1 2 rfl) K_FP_189 (fitK rfl) (ltK rfl) (hw_10_3 hc0) rfl (leK rfl) (leK rfl) (leK rfl) (tf_Plan_isLate (hw_10_3 hc0) (g_in _ _ _) e_p19) (kcB ?_)
      refine vg_ifB_eq (pc := 129) (b := p19) (t := 136) (dK D_FP_ad_1 3 rfl) rfl (fun hc20 => ?_) (fun hc20 => ?_)
      · replace h := ifP h hc20
        refine vg_iconst (pc := 132) (dK D_FP_ad_1 4 rfl) ?_
        refine g_goto (pc := 133) (tgt := 137) (dK D_FP_ad_1 5 rfl) rfl ?_
        exact vg_iretI (pc := 137) (r := 1) (dK D_FP_ad_1 7 rfl) rfl (leK rfl) (leK rfl) (xf hfl) (by obtain rfl := Option.some.inj h; exact KT_ok ⟨rfl, (inRk rfl), rfl⟩)
      · replace h := ifN h hc20
        refine vg_iconst (pc := 136) (dK D_FP_ad_1 6 rfl) ?_
        exact vg_iretI (pc := 137) (r := 0) (dK D_FP_ad_1 7 rfl) rfl (leK rfl) (leK rfl) (xf hfl) (by obtain rfl := Option.some.inj h; exact KT_ok ⟨rfl, (inRk rfl), rfl⟩)
    replace h := ifN h hk17
    refine vg_tabD (pc := 17) (t := 138) (lo := 0) (hi := 7) (dK D_FP_ad_0 9 rfl) ha2 (by omega) rfl ?_
    refine vg_iconst (pc := 138) (dK D_FP_ad_1 8 rfl) ?_
    exact vg_iretI (pc := 139) (r := (-1)) (dK D_FP_ad_1 9 rfl) rfl (leK rfl) (leK rfl) (xf hfl) (by obtain rfl := Option.some.inj h; exact KT_ok ⟨rfl, (inRk rfl), rfl⟩)
  · replace h := ifN h he21
    obtain rfl := Option.some.inj h
    exact KT_thr he21
def fn_FP_needStory (c0 : Nat) (a1 : Int) (S : St) : Option (Nat) := if a1 < 0 then (some 1) else (if a1 < (g S (tgt (tgt (tgt c0 3) 0) 1) 5) then (some 0) else (some 1))
theorem tf_FP_needStory {E : EV} {X : XT} (hfl : X.2.2.2 = false) {c0 : Nat} (hc0 : HC X 10 c0) {a1 : Int} (ha1 : inR a1) {S : St} {q : Nat} (h : fn_FP_needStory c0 a1 S = some q) : Ev E M_FP_needStory [.ref c0, V a1] (WX X S) 1 6 (KT X q S (KU X S)) := by
  refine Ev.of pn_FP rfl (leK rfl) ?_
  show Go E M_FP_needStory 1 6 0 [(0, .ref c0), (1, V a1)] [] (WX X S) 0 0 (KT X q S (KU X S))
  unfold fn_FP_needStory at h
  refine g_iloadn (pc := 0) (i0 := 1) (j := 1) (dK D_FP_needStory 0 rfl) rfl rfl ?_
  refine vg_if_lt (pc := 1) (t := 21) (dK D_FP_needStory 1 rfl) rfl ha1 (fun hc2 => ?_) (fun hc2 => ?_)
  · replace h := ifP h hc2
    exact vg_throwW hfl (pc := 21) TH_FP_363_368 (dK D_FP_needStory 9 rfl) (dK D_FP_needStory 10 rfl) (dK D_FP_needStory 11 rfl) (dK D_FP_needStory 12 rfl) (dK D_FP_needStory 13 rfl) rfl (leK rfl) (leK rfl) (leK rfl) (leK rfl) (leK rfl) (by obtain rfl := Option.some.inj h; exact KT_thr (e := 1) (by decide))
  · replace h := ifN h hc2
    refine g_iloadn (pc := 4) (i0 := 1) (j := 1) (dK D_FP_needStory 2 rfl) rfl rfl ?_
    refine g_aloadn (pc := 5) (i0 := 0) (j := 0) (dK D_FP_needStory 3 rfl) rfl rfl ?_
    refine vg_getO (pc := 6) (ci := 10) (f := 3) (dK D_FP_needStory 4 rfl) q_436 hc0 (ltK rfl) (ltK rfl) rfl ?_
    refine vg_getO (pc := 9) (ci := 4) (f := 0) (dK D_FP_needStory 5 rfl) q_303 (hw_10_3 hc0) (ltK rfl) (ltK rfl) rfl ?_
    refine vg_getO (pc := 12) (ci := 8) (f := 1) (dK D_FP_needStory 6 rfl) q_240 (hw_4_0 (hw_10_3 hc0)) (ltK rfl) (ltK rfl) rfl ?_
    refine vg_getI (pc := 15) (ci := 9) (f := 5) (dK D_FP_needStory 7 rfl) q_168 (hw_8_1 (hw_4_0 (hw_10_3 hc0))) (ltK rfl) (ltK rfl) rfl ?_
    refine vg_icmp_lt (pc := 18) (t := 32) (dK D_FP_needStory 8 rfl) rfl ha1 (g_in _ _ _) (fun hc1 => ?_) (fun hc1 => ?_)
    · replace h := ifP h hc1
      exact g_return (pc := 32) (dK D_FP_needStory 14 rfl) rfl (leK rfl) (leK rfl) (xf hfl) (by obtain rfl := Option.some.inj h; exact KT_ok ⟨rfl, rfl⟩)
    · replace h := ifN h hc1
      exact vg_throwW hfl (pc := 21) TH_FP_363_368 (dK D_FP_needStory 9 rfl) (dK D_FP_needStory 10 rfl) (dK D_FP_needStory 11 rfl) (dK D_FP_needStory 12 rfl) (dK D_FP_needStory 13 rfl) rfl (leK rfl) (leK rfl) (leK rfl) (leK rfl) (leK rfl) (by obtain rfl := Option.some.inj h; exact KT_thr (e := 1) (by decide))
def fn_FP_story (c0 : Nat) (a1 : Int) (a2 : Int) (S : St) : Option (Nat × Int) := bnO (fn_FP_needStory c0 a1 S) fun p1 => if p1 = 0 then (if a2 = 0 then (if 0 ≤ a1 ∧ a1 < 10 then (some (0, (g S (tgt (tgt (tgt (tgt c0 3) 0) 1) 0) a1.toNat))) else none) else if a2 = 1 then (if 0 ≤ a1 ∧ a1 < 10 then (some (0, (g S (tgt (tgt (tgt (tgt c0 3) 0) 1) 1) a1.toNat))) else none) else if a2 = 2 then (if 0 ≤ a1 ∧ a1 < 10 then (some (0, (g S (tgt (tgt (tgt (tgt c0 3) 0) 1) 2) a1.toNat))) else none) else if a2 = 3 then (if 0 ≤ a1 ∧ a1 < 10 then (some (0, (g S (tgt (tgt (tgt (tgt c0 3) 0) 1) 3) a1.toNat))) else none) else if a2 = 4 then (if 0 ≤ a1 ∧ a1 < 10 then (bnO (fn_FP_orNone (g S (tgt (tgt (tgt (tgt c0 3) 0) 1) 4) a1.toNat) S) fun p12 => some (0, p12)) else none) else if a2 = 5 then (if 0 ≤ a1 ∧ a1 < 10 then (bnO (fn_Plan_isLate (tgt c0 3) (g S (tgt (tgt (tgt (tgt c0 3) 0) 1) 3) a1.toNat) S) fun p15 => if p15 = true then (some (0, 1)) else (some (0, 0))) else none) else (some (0, (-1)))) else (some (p1, 0))
theorem tf_FP_story {E : EV} {X : XT} (hfl : X.2.2.2 = false) {c0 : Nat} (hc0 : HC X 10 c0) {a1 : Int} (ha1 : inR a1) {a2 : Int} (ha2 : inR a2) {S : St} {q : Nat × Int} (h : fn_FP_story c0 a1 a2 S = some q) : Ev E M_FP_story [.ref c0, V a1, V a2] (WX X S) 1 6 (KT X q.1 S (KI X q.2 S)) := by
  refine Ev.of pn_FP rfl (leK rfl) ?_
  show Go E M_FP_story 1 6 0 [(0, .ref c0), (1, V a1), (2, V a2)] [] (WX X S) 0 0 (KT X q.1 S (KI X q.2 S))
  unfold fn_FP_story at h
  refine g_aloadn (pc := 0) (i0 := 0) (j := 0) (dK D_FP_story 0 rfl) rfl rfl ?_
  refine g_iloadn (pc := 1) (i0 := 1) (j := 1) (dK D_FP_story 1 rfl) rfl rfl ?_
  refine bnE h (fun p1 e_p1 h => ?_)
  refine vg_cV (pc := 2) (As := [V a1]) (rest := []) (mc' := 1) (ms' := 6) (dK D_FP_story 2 rfl) K_FP_192 (fitK rfl) (ltK rfl) hc0 rfl (leK rfl) (leK rfl) (leK rfl) (tf_FP_needStory hfl hc0 ha1 e_p1) (kcT hfl (fun he17 => kcU ?_) (fun he17 => ⟨rfl, ?_⟩))
  · replace h := ifP h he17
    refine g_aloadn (pc := 5) (i0 := 0) (j := 0) (dK D_FP_story 3 rfl) rfl rfl ?_
    refine vg_getO (pc := 6) (ci := 10) (f := 3) (dK D_FP_story 4 rfl) q_436 hc0 (ltK rfl) (ltK rfl) rfl ?_
    refine vg_getO (pc := 9) (ci := 4) (f := 0) (dK D_FP_story 5 rfl) q_303 (hw_10_3 hc0) (ltK rfl) (ltK rfl) rfl ?_
    refine vg_getO (pc := 12) (ci := 8) (f := 1) (dK D_FP_story 6 rfl) q_240 (hw_4_0 (hw_10_3 hc0)) (ltK rfl) (ltK rfl) rfl ?_
    refine g_astoren (pc := 15) (i0 := 3) (ls2 := [(3, .ref (tgt (tgt (tgt c0 3) 0) 1)), (0, .ref c0), (1, V a1), (2, V a2)]) (dK D_FP_story 7 rfl) rfl (ltK rfl) rfl ?_
    refine g_iloadn (pc := 16) (i0 := 2) (j := 3) (dK D_FP_story 8 rfl) rfl rfl ?_
    by_cases hk2 : a2 = 0
    · have h := ifP h hk2
      refine vg_tabK (pc := 17) (kk := 0) (t := 56) (dK D_FP_story 9 rfl) hk2 rfl rfl rfl rfl ?_
      refine g_aloadn (pc := 56) (i0 := 3) (j := 0) (dK D_FP_story 10 rfl) rfl rfl ?_
      refine vg_getA (pc := 57) (ci := 9) (f := 0) (dK D_FP_story 11 rfl) q_147 (hw_8_1 (hw_4_0 (hw_10_3 hc0))) (ltK rfl) (ltK rfl) rfl ?_
      refine g_iloadn (pc := 60) (i0 := 1) (j := 2) (dK D_FP_story 12 rfl) rfl rfl ?_
      refine gdE h (fun hi3 h => ?_)
      refine vg_iaload (pc := 61) (j := a1.toNat) (dK D_FP_story 13 rfl) (hw_9_0 (hw_8_1 (hw_4_0 (hw_10_3 hc0)))) rfl hi3 rfl ?_
      exact vg_iretI (pc := 62) (r := (g S (tgt (tgt (tgt (tgt c0 3) 0) 1) 0) a1.toNat)) (dK D_FP_story 14 rfl) rfl (leK rfl) (leK rfl) (xf hfl) (by obtain rfl := Option.some.inj h; exact KT_ok ⟨rfl, (g_in _ _ _), rfl⟩)
    replace h := ifN h hk2
    by_cases hk4 : a2 = 1
    · have h := ifP h hk4
      refine vg_tabK (pc := 17) (kk := 1) (t := 63) (dK D_FP_story 9 rfl) hk4 rfl rfl rfl rfl ?_
      refine g_aloadn (pc := 63) (i0 := 3) (j := 0) (dK D_FP_story 15 rfl) rfl rfl ?_
      refine vg_getA (pc := 64) (ci := 9) (f := 1) (dK D_FP_story 16 rfl) q_149 (hw_8_1 (hw_4_0 (hw_10_3 hc0))) (ltK rfl) (ltK rfl) rfl ?_
      refine g_iloadn (pc := 67) (i0 := 1) (j := 2) (dK D_FP_story 17 rfl) rfl rfl ?_
      refine gdE h (fun hi5 h => ?_)
      refine vg_iaload (pc := 68) (j := a1.toNat) (dK D_FP_story 18 rfl) (hw_9_1 (hw_8_1 (hw_4_0 (hw_10_3 hc0)))) rfl hi5 rfl ?_
      exact vg_iretI (pc := 69) (r := (g S (tgt (tgt (tgt (tgt c0 3) 0) 1) 1) a1.toNat)) (dK D_FP_story 19 rfl) rfl (leK rfl) (leK rfl) (xf hfl) (by obtain rfl := Option.some.inj h; exact KT_ok ⟨rfl, (g_in _ _ _), rfl⟩)
    replace h := ifN h hk4
    by_cases hk6 : a2 = 2
    · have h := ifP h hk6
      refine vg_tabK (pc := 17) (kk := 2) (t := 70) (dK D_FP_story 9 rfl) hk6 rfl rfl rfl rfl ?_
      refine g_aloadn (pc := 70) (i0 := 3) (j := 0) (dK D_FP_story 20 rfl) rfl rfl ?_
      refine vg_getA (pc := 71) (ci := 9) (f := 2) (dK D_FP_story 21 rfl) q_153 (hw_8_1 (hw_4_0 (hw_10_3 hc0))) (ltK rfl) (ltK rfl) rfl ?_
      refine g_iloadn (pc := 74) (i0 := 1) (j := 2) (dK D_FP_story 22 rfl) rfl rfl ?_
      refine gdE h (fun hi7 h => ?_)
      refine vg_iaload (pc := 75) (j := a1.toNat) (dK D_FP_story 23 rfl) (hw_9_2 (hw_8_1 (hw_4_0 (hw_10_3 hc0)))) rfl hi7 rfl ?_
      exact vg_iretI (pc := 76) (r := (g S (tgt (tgt (tgt (tgt c0 3) 0) 1) 2) a1.toNat)) (dK D_FP_story 24 rfl) rfl (leK rfl) (leK rfl) (xf hfl) (by obtain rfl := Option.some.inj h; exact KT_ok ⟨rfl, (g_in _ _ _), rfl⟩)
    replace h := ifN h hk6
    by_cases hk8 : a2 = 3
    · have h := ifP h hk8
      refine vg_tabK (pc := 17) (kk := 3) (t := 77) (dK D_FP_story 9 rfl) hk8 rfl rfl rfl rfl ?_
      refine g_aloadn (pc := 77) (i0 := 3) (j := 0) (dK D_FP_story 25 rfl) rfl rfl ?_
      refine vg_getA (pc := 78) (ci := 9) (f := 3) (dK D_FP_story 26 rfl) q_156 (hw_8_1 (hw_4_0 (hw_10_3 hc0))) (ltK rfl) (ltK rfl) rfl ?_
      refine g_iloadn (pc := 81) (i0 := 1) (j := 2) (dK D_FP_story 27 rfl) rfl rfl ?_
      refine gdE h (fun hi9 h => ?_)
      refine vg_iaload (pc := 82) (j := a1.toNat) (dK D_FP_story 28 rfl) (hw_9_3 (hw_8_1 (hw_4_0 (hw_10_3 hc0)))) rfl hi9 rfl ?_
      exact vg_iretI (pc := 83) (r := (g S (tgt (tgt (tgt (tgt c0 3) 0) 1) 3) a1.toNat)) (dK D_FP_story 29 rfl) rfl (leK rfl) (leK rfl) (xf hfl) (by obtain rfl := Option.some.inj h; exact KT_ok ⟨rfl, (g_in _ _ _), rfl⟩)
    replace h := ifN h hk8
    by_cases hk10 : a2 = 4
    · have h := ifP h hk10
      refine vg_tabK (pc := 17) (kk := 4) (t := 84) (dK D_FP_story 9 rfl) hk10 rfl rfl rfl rfl ?_
      refine g_aloadn (pc := 84) (i0 := 3) (j := 0) (dK D_FP_story 30 rfl) rfl rfl ?_
      refine vg_getA (pc := 85) (ci := 9) (f := 4) (dK D_FP_story 31 rfl) q_162 (hw_8_1 (hw_4_0 (hw_10_3 hc0))) (ltK rfl) (ltK rfl) rfl ?_
      refine g_iloadn (pc := 88) (i0 := 1) (j := 2) (dK D_FP_story 32 rfl) rfl rfl ?_
      refine gdE h (fun hi11 h => ?_)
      refine vg_iaload (pc := 89) (j := a1.toNat) (dK D_FP_story 33 rfl) (hw_9_4 (hw_8_1 (hw_4_0 (hw_10_3 hc0)))) rfl hi11 rfl ?_
      refine bnE h (fun p12 e_p12 h => ?_)
      refine vg_cS (pc := 90) (As := [V (g S (tgt (tgt (tgt (tgt c0 3) 0) 1) 4) a1.toNat)]) (rest := []) (mc' := 0) (ms' := 0) (dK D_FP_story 34 rfl) K_FP_185 (fitK rfl) rfl (leK rfl) (leK rfl) (leK rfl) (tf_FP_orNone (g_in _ _ _) e_p12) (kcI (fun h_p12 => ?_))
      exact vg_iretI (pc := 93) (r := p12) (dK D_FP_story 35 rfl) rfl (leK rfl) (leK rfl) (xf hfl) (by obtain rfl := Option.some.inj h; exact KT_ok ⟨rfl, h_p12, rfl⟩)
    replace h := ifN h hk10
    by_cases hk13 : a2 = 5
    · have h := ifP h hk13
      refine vg_tabK (pc := 17) (kk := 5) (t := 94) (dK D_FP_story 9 rfl) hk13 rfl rfl rfl rfl ?_
      refine g_aloadn (pc := 94) (i0 := 0) (j := 1) (dK D_FP_story 36 rfl) rfl rfl ?_
      refine vg_getO (pc := 95) (ci := 10) (f := 3) (dK D_FP_story 37 rfl) q_436 hc0 (ltK rfl) (ltK rfl) rfl ?_
      refine g_aloadn (pc := 98) (i0 := 3) (j := 0) (dK D_FP_story 38 rfl) rfl rfl ?_
      refine vg_getA (pc := 99) (ci := 9) (f := 3) (dK D_FP_story 39 rfl) q_156 (hw_8_1 (hw_4_0 (hw_10_3 hc0))) (ltK rfl) (ltK rfl) rfl ?_
      refine g_iloadn (pc := 102) (i0 := 1) (j := 2) (dK D_FP_story 40 rfl) rfl rfl ?_
      refine gdE h (fun hi14 h => ?_)
      refine vg_iaload (pc := 103) (j := a1.toNat) (dK D_FP_story 41 rfl) (hw_9_3 (hw_8_1 (hw_4_0 (hw_10_3 hc0)))) rfl hi14 rfl ?_
      refine bnE h (fun p15 e_p15 h => ?_)
      refine vg_cV (pc := 104) (As := [V (g S (tgt (tgt (tgt (tgt c0 3) 0) 1) 3) a1.toNat)]) (rest := []) (mc' := 0) (ms' := 0) (dK D_FP_story 42 rfl) K_FP_189 (fitK rfl) (ltK rfl) (hw_10_3 hc0) rfl (leK rfl) (leK rfl) (leK rfl) (tf_Plan_isLate (hw_10_3 hc0) (g_in _ _ _) e_p15) (kcB ?_)
      refine vg_ifB_eq (pc := 107) (b := p15) (t := 114) (dK D_FP_story 43 rfl) rfl (fun hc16 => ?_) (fun hc16 => ?_)
      · replace h := ifP h hc16
        refine vg_iconst (pc := 110) (dK D_FP_story 44 rfl) ?_
        refine g_goto (pc := 111) (tgt := 115) (dK D_FP_story 45 rfl) rfl ?_
        exact vg_iretI (pc := 115) (r := 1) (dK D_FP_story 47 rfl) rfl (leK rfl) (leK rfl) (xf hfl) (by obtain rfl := Option.some.inj h; exact KT_ok ⟨rfl, (inRk rfl), rfl⟩)
      · replace h := ifN h hc16
        refine vg_iconst (pc := 114) (dK D_FP_story 46 rfl) ?_
        exact vg_iretI (pc := 115) (r := 0) (dK D_FP_story 47 rfl) rfl (leK rfl) (leK rfl) (xf hfl) (by obtain rfl := Option.some.inj h; exact KT_ok ⟨rfl, (inRk rfl), rfl⟩)
    replace h := ifN h hk13
    refine vg_tabD (pc := 17) (t := 116) (lo := 0) (hi := 5) (dK D_FP_story 9 rfl) ha2 (by omega) rfl ?_
    refine vg_iconst (pc := 116) (dK D_FP_story 48 rfl) ?_
    exact vg_iretI (pc := 117) (r := (-1)) (dK D_FP_story 49 rfl) rfl (leK rfl) (leK rfl) (xf hfl) (by obtain rfl := Option.some.inj h; exact KT_ok ⟨rfl, (inRk rfl), rfl⟩)
  · replace h := ifN h he17
    obtain rfl := Option.some.inj h
    exact KT_thr he17
def fn_FP_needStandby (c0 : Nat) (a1 : Int) (S : St) : Option (Nat) := if a1 < 0 then (some 1) else (if a1 < (g S (tgt (tgt (tgt c0 3) 0) 2) 2) then (some 0) else (some 1))
theorem tf_FP_needStandby {E : EV} {X : XT} (hfl : X.2.2.2 = false) {c0 : Nat} (hc0 : HC X 10 c0) {a1 : Int} (ha1 : inR a1) {S : St} {q : Nat} (h : fn_FP_needStandby c0 a1 S = some q) : Ev E M_FP_needStandby [.ref c0, V a1] (WX X S) 1 6 (KT X q S (KU X S)) := by
  refine Ev.of pn_FP rfl (leK rfl) ?_
  show Go E M_FP_needStandby 1 6 0 [(0, .ref c0), (1, V a1)] [] (WX X S) 0 0 (KT X q S (KU X S))
  unfold fn_FP_needStandby at h
  refine g_iloadn (pc := 0) (i0 := 1) (j := 1) (dK D_FP_needStandby 0 rfl) rfl rfl ?_
  refine vg_if_lt (pc := 1) (t := 21) (dK D_FP_needStandby 1 rfl) rfl ha1 (fun hc2 => ?_) (fun hc2 => ?_)
  · replace h := ifP h hc2
    exact vg_throwW hfl (pc := 21) TH_FP_363_370 (dK D_FP_needStandby 9 rfl) (dK D_FP_needStandby 10 rfl) (dK D_FP_needStandby 11 rfl) (dK D_FP_needStandby 12 rfl) (dK D_FP_needStandby 13 rfl) rfl (leK rfl) (leK rfl) (leK rfl) (leK rfl) (leK rfl) (by obtain rfl := Option.some.inj h; exact KT_thr (e := 1) (by decide))
  · replace h := ifN h hc2
    refine g_iloadn (pc := 4) (i0 := 1) (j := 1) (dK D_FP_needStandby 2 rfl) rfl rfl ?_
    refine g_aloadn (pc := 5) (i0 := 0) (j := 0) (dK D_FP_needStandby 3 rfl) rfl rfl ?_
    refine vg_getO (pc := 6) (ci := 10) (f := 3) (dK D_FP_needStandby 4 rfl) q_436 hc0 (ltK rfl) (ltK rfl) rfl ?_
    refine vg_getO (pc := 9) (ci := 4) (f := 0) (dK D_FP_needStandby 5 rfl) q_303 (hw_10_3 hc0) (ltK rfl) (ltK rfl) rfl ?_
    refine vg_getO (pc := 12) (ci := 8) (f := 2) (dK D_FP_needStandby 6 rfl) q_243 (hw_4_0 (hw_10_3 hc0)) (ltK rfl) (ltK rfl) rfl ?_
    refine vg_getI (pc := 15) (ci := 7) (f := 2) (dK D_FP_needStandby 7 rfl) q_196 (hw_8_2 (hw_4_0 (hw_10_3 hc0))) (ltK rfl) (ltK rfl) rfl ?_
    refine vg_icmp_lt (pc := 18) (t := 32) (dK D_FP_needStandby 8 rfl) rfl ha1 (g_in _ _ _) (fun hc1 => ?_) (fun hc1 => ?_)
    · replace h := ifP h hc1
      exact g_return (pc := 32) (dK D_FP_needStandby 14 rfl) rfl (leK rfl) (leK rfl) (xf hfl) (by obtain rfl := Option.some.inj h; exact KT_ok ⟨rfl, rfl⟩)
    · replace h := ifN h hc1
      exact vg_throwW hfl (pc := 21) TH_FP_363_370 (dK D_FP_needStandby 9 rfl) (dK D_FP_needStandby 10 rfl) (dK D_FP_needStandby 11 rfl) (dK D_FP_needStandby 12 rfl) (dK D_FP_needStandby 13 rfl) rfl (leK rfl) (leK rfl) (leK rfl) (leK rfl) (leK rfl) (by obtain rfl := Option.some.inj h; exact KT_thr (e := 1) (by decide))
def fn_FP_standby (c0 : Nat) (a1 : Int) (a2 : Int) (S : St) : Option (Nat × Int) := bnO (fn_FP_needStandby c0 a1 S) fun p1 => if p1 = 0 then (if a2 = 0 then (if 0 ≤ a1 ∧ a1 < 8 then (some (0, (g S (tgt (tgt (tgt (tgt c0 3) 0) 2) 0) a1.toNat))) else none) else if a2 = 1 then (if 0 ≤ a1 ∧ a1 < 8 then (bnO (fn_FP_orNone (g S (tgt (tgt (tgt (tgt c0 3) 0) 2) 1) a1.toNat) S) fun p6 => some (0, p6)) else none) else (some (0, (-1)))) else (some (p1, 0))
theorem tf_FP_standby {E : EV} {X : XT} (hfl : X.2.2.2 = false) {c0 : Nat} (hc0 : HC X 10 c0) {a1 : Int} (ha1 : inR a1) {a2 : Int} (ha2 : inR a2) {S : St} {q : Nat × Int} (h : fn_FP_standby c0 a1 a2 S = some q) : Ev E M_FP_standby [.ref c0, V a1, V a2] (WX X S) 1 6 (KT X q.1 S (KI X q.2 S)) := by
  refine Ev.of pn_FP rfl (leK rfl) ?_
  show Go E M_FP_standby 1 6 0 [(0, .ref c0), (1, V a1), (2, V a2)] [] (WX X S) 0 0 (KT X q.1 S (KI X q.2 S))
  unfold fn_FP_standby at h
  refine g_aloadn (pc := 0) (i0 := 0) (j := 0) (dK D_FP_standby 0 rfl) rfl rfl ?_
  refine g_iloadn (pc := 1) (i0 := 1) (j := 1) (dK D_FP_standby 1 rfl) rfl rfl ?_
  refine bnE h (fun p1 e_p1 h => ?_)
  refine vg_cV (pc := 2) (As := [V a1]) (rest := []) (mc' := 1) (ms' := 6) (dK D_FP_standby 2 rfl) K_FP_200 (fitK rfl) (ltK rfl) hc0 rfl (leK rfl) (leK rfl) (leK rfl) (tf_FP_needStandby hfl hc0 ha1 e_p1) (kcT hfl (fun he7 => kcU ?_) (fun he7 => ⟨rfl, ?_⟩))
  · replace h := ifP h he7
    refine g_aloadn (pc := 5) (i0 := 0) (j := 0) (dK D_FP_standby 3 rfl) rfl rfl ?_
    refine vg_getO (pc := 6) (ci := 10) (f := 3) (dK D_FP_standby 4 rfl) q_436 hc0 (ltK rfl) (ltK rfl) rfl ?_
    refine vg_getO (pc := 9) (ci := 4) (f := 0) (dK D_FP_standby 5 rfl) q_303 (hw_10_3 hc0) (ltK rfl) (ltK rfl) rfl ?_
    refine vg_getO (pc := 12) (ci := 8) (f := 2) (dK D_FP_standby 6 rfl) q_243 (hw_4_0 (hw_10_3 hc0)) (ltK rfl) (ltK rfl) rfl ?_
    refine g_astoren (pc := 15) (i0 := 3) (ls2 := [(3, .ref (tgt (tgt (tgt c0 3) 0) 2)), (0, .ref c0), (1, V a1), (2, V a2)]) (dK D_FP_standby 7 rfl) rfl (ltK rfl) rfl ?_
    refine g_iloadn (pc := 16) (i0 := 2) (j := 3) (dK D_FP_standby 8 rfl) rfl rfl ?_
    by_cases hk2 : a2 = 0
    · have h := ifP h hk2
      refine vg_lkpK (pc := 17) (kk := 0) (t := 44) (dK D_FP_standby 9 rfl) rfl hk2 rfl rfl rfl ?_
      refine g_aloadn (pc := 44) (i0 := 3) (j := 0) (dK D_FP_standby 10 rfl) rfl rfl ?_
      refine vg_getA (pc := 45) (ci := 7) (f := 0) (dK D_FP_standby 11 rfl) q_190 (hw_8_2 (hw_4_0 (hw_10_3 hc0))) (ltK rfl) (ltK rfl) rfl ?_
      refine g_iloadn (pc := 48) (i0 := 1) (j := 2) (dK D_FP_standby 12 rfl) rfl rfl ?_
      refine gdE h (fun hi3 h => ?_)
      refine vg_iaload (pc := 49) (j := a1.toNat) (dK D_FP_standby 13 rfl) (hw_7_0 (hw_8_2 (hw_4_0 (hw_10_3 hc0)))) rfl hi3 rfl ?_
      exact vg_iretI (pc := 50) (r := (g S (tgt (tgt (tgt (tgt c0 3) 0) 2) 0) a1.toNat)) (dK D_FP_standby 14 rfl) rfl (leK rfl) (leK rfl) (xf hfl) (by obtain rfl := Option.some.inj h; exact KT_ok ⟨rfl, (g_in _ _ _), rfl⟩)
    replace h := ifN h hk2
    by_cases hk4 : a2 = 1
    · have h := ifP h hk4
      refine vg_lkpK (pc := 17) (kk := 1) (t := 51) (dK D_FP_standby 9 rfl) rfl hk4 rfl rfl rfl ?_
      refine g_aloadn (pc := 51) (i0 := 3) (j := 0) (dK D_FP_standby 15 rfl) rfl rfl ?_
      refine vg_getA (pc := 52) (ci := 7) (f := 1) (dK D_FP_standby 16 rfl) q_193 (hw_8_2 (hw_4_0 (hw_10_3 hc0))) (ltK rfl) (ltK rfl) rfl ?_
      refine g_iloadn (pc := 55) (i0 := 1) (j := 2) (dK D_FP_standby 17 rfl) rfl rfl ?_
      refine gdE h (fun hi5 h => ?_)
      refine vg_iaload (pc := 56) (j := a1.toNat) (dK D_FP_standby 18 rfl) (hw_7_1 (hw_8_2 (hw_4_0 (hw_10_3 hc0)))) rfl hi5 rfl ?_
      refine bnE h (fun p6 e_p6 h => ?_)
      refine vg_cS (pc := 57) (As := [V (g S (tgt (tgt (tgt (tgt c0 3) 0) 2) 1) a1.toNat)]) (rest := []) (mc' := 0) (ms' := 0) (dK D_FP_standby 19 rfl) K_FP_185 (fitK rfl) rfl (leK rfl) (leK rfl) (leK rfl) (tf_FP_orNone (g_in _ _ _) e_p6) (kcI (fun h_p6 => ?_))
      exact vg_iretI (pc := 60) (r := p6) (dK D_FP_standby 20 rfl) rfl (leK rfl) (leK rfl) (xf hfl) (by obtain rfl := Option.some.inj h; exact KT_ok ⟨rfl, h_p6, rfl⟩)
    replace h := ifN h hk4
    refine vg_lkpD (pc := 17) (t := 61) (dK D_FP_standby 9 rfl) rfl ha2 (List.forall_mem_cons.mpr ⟨fun e => hk2 e.symm, (List.forall_mem_cons.mpr ⟨fun e => hk4 e.symm, (fun _ h => absurd h List.not_mem_nil)⟩)⟩) rfl ?_
    refine vg_iconst (pc := 61) (dK D_FP_standby 21 rfl) ?_
    exact vg_iretI (pc := 62) (r := (-1)) (dK D_FP_standby 22 rfl) rfl (leK rfl) (leK rfl) (xf hfl) (by obtain rfl := Option.some.inj h; exact KT_ok ⟨rfl, (inRk rfl), rfl⟩)
  · replace h := ifN h he7
    obtain rfl := Option.some.inj h
    exact KT_thr he7
def lb_FP_placed_4 (nc0 : Nat) (c0 : Nat) (a1 : Int) (S : St) (go : Int × Int → Option (Int)) (a2 : Int) (a3 : Int) : Option (Int) := if a1 ≤ a3 then (some a2) else (if (nc0 : Int) ≤ a3 then (some a2) else (if 0 ≤ a3 ∧ a3 < (nc0 : Int) then (if (g S c0 a3.toNat) = 0 then (nm (wr (a3 + 1)) fun v2 => go (a2, v2)) else (nm (wr (a2 + 1)) fun v3 => nm (wr (a3 + 1)) fun v4 => go (v3, v4))) else none))
def lo_FP_placed_4 (nc0 : Nat) (c0 : Nat) (a1 : Int) (S : St) : Nat → Int × Int → Option (Int) := lp fun go p => lb_FP_placed_4 nc0 c0 a1 S go p.1 p.2
theorem tl_FP_placed_4 {E : EV} {X : XT} {nc0 c0 : Nat} (hnc0 : Nat.ble nc0 99999 = true) (hc0 : HA X 0 nc0 c0) {a1 : Int} (ha1 : inR a1) {S : St} {K : RK → PS → Prop} {q : Int} (hx : inR q → Go E M_FP_placed 0 0 30 [(2, V q)] [] (WX X S) 0 0 K) : ∀ n a, lo_FP_placed_4 nc0 c0 a1 S n a = some q → inR a.1 → inR a.2 → Go E M_FP_placed 0 0 4 [(0, .ref c0), (1, V a1), (2, V a.1), (3, V a.2)] [] (WX X S) 0 0 K := by
  refine lp_ind (P := fun a : Int × Int => inR a.1 → inR a.2 → Go E M_FP_placed 0 0 4 [(0, .ref c0), (1, V a1), (2, V a.1), (3, V a.2)] [] (WX X S) 0 0 K) (fun go ih a h => ?_)
  obtain ⟨a2, a3⟩ := a
  intro ha2 ha3
  show Go E M_FP_placed 0 0 4 [(0, .ref c0), (1, V a1), (2, V a2), (3, V a3)] [] (WX X S) 0 0 K
  replace h : lb_FP_placed_4 nc0 c0 a1 S go a2 a3 = some q := h
  unfold lb_FP_placed_4 at h
  refine g_iloadn (pc := 4) (i0 := 3) (j := 3) (dK D_FP_placed 4 rfl) rfl rfl ?_
  refine g_iloadn (pc := 5) (i0 := 1) (j := 1) (dK D_FP_placed 5 rfl) rfl rfl ?_
  refine vg_icmp_ge (pc := 6) (t := 30) (dK D_FP_placed 6 rfl) rfl ha3 ha1 (fun hc7 => ?_) (fun hc7 => ?_)
  · replace h := ifP h hc7
    obtain rfl := Option.some.inj h
    refine gL_weak (ls' := [(2, V a2)]) (sbc 2 rfl sbn) ?_
    exact hx ha2
  · replace h := ifN h hc7
    refine g_iloadn (pc := 9) (i0 := 3) (j := 3) (dK D_FP_placed 7 rfl) rfl rfl ?_
    refine g_aloadn (pc := 10) (i0 := 0) (j := 0) (dK D_FP_placed 8 rfl) rfl rfl ?_
    refine vg_alen (pc := 11) (dK D_FP_placed 9 rfl) (ltK rfl) hc0 ?_
    refine vg_icmp_ge (pc := 12) (t := 30) (dK D_FP_placed 10 rfl) rfl ha3 (inR_nat hnc0) (fun hc6 => ?_) (fun hc6 => ?_)
    · replace h := ifP h hc6
      obtain rfl := Option.some.inj h
      refine gL_weak (ls' := [(2, V a2)]) (sbc 2 rfl sbn) ?_
      exact hx ha2
    · replace h := ifN h hc6
      refine g_aloadn (pc := 15) (i0 := 0) (j := 0) (dK D_FP_placed 11 rfl) rfl rfl ?_
      refine g_iloadn (pc := 16) (i0 := 3) (j := 3) (dK D_FP_placed 12 rfl) rfl rfl ?_
      refine gdE h (fun hi1 h => ?_)
      refine vg_iaload (pc := 17) (j := a3.toNat) (dK D_FP_placed 13 rfl) hc0 hnc0 hi1 rfl ?_
      refine vg_if_eq (pc := 18) (t := 24) (dK D_FP_placed 14 rfl) rfl (g_in _ _ _) (fun hc5 => ?_) (fun hc5 => ?_)
      · replace h := ifP h hc5
        refine nmE h (fun v2 e_v2 h => ?_)
        refine vg_iinc (pc := 24) (j := 3) (a := a3) (z := 1) (ls2 := [(3, V v2), (0, .ref c0), (1, V a1), (2, V a2)]) (dK D_FP_placed 16 rfl) rfl e_v2 (ltK rfl) rfl ?_
        refine g_goto (pc := 27) (tgt := 4) (dK D_FP_placed 17 rfl) rfl ?_
        refine gL_weak (ls' := [(0, .ref c0), (1, V a1), (2, V a2), (3, V v2)]) (sbc 1 rfl (sbc 2 rfl (sbc 3 rfl (sbc 0 rfl sbn)))) ?_
        replace h := ih _ h
        exact h ha2 (Vn_in e_v2)
      · replace h := ifN h hc5
        refine nmE h (fun v3 e_v3 h => ?_)
        refine vg_iinc (pc := 21) (j := 2) (a := a2) (z := 1) (ls2 := [(2, V v3), (0, .ref c0), (1, V a1), (3, V a3)]) (dK D_FP_placed 15 rfl) rfl e_v3 (ltK rfl) rfl ?_
        refine nmE h (fun v4 e_v4 h => ?_)
        refine vg_iinc (pc := 24) (j := 3) (a := a3) (z := 1) (ls2 := [(3, V v4), (2, V v3), (0, .ref c0), (1, V a1)]) (dK D_FP_placed 16 rfl) rfl e_v4 (ltK rfl) rfl ?_
        refine g_goto (pc := 27) (tgt := 4) (dK D_FP_placed 17 rfl) rfl ?_
        refine gL_weak (ls' := [(0, .ref c0), (1, V a1), (2, V v3), (3, V v4)]) (sbc 2 rfl (sbc 3 rfl (sbc 1 rfl (sbc 0 rfl sbn)))) ?_
        replace h := ih _ h
        exact h (Vn_in e_v3) (Vn_in e_v4)
def fn_FP_placed (n0 : Nat) (c0 : Nat) (a1 : Int) (S : St) : Option (Int) := bnO (lo_FP_placed_4 n0 c0 a1 S FU (0, 0)) fun p8 => some p8
theorem tf_FP_placed {E : EV} {X : XT} {n0 c0 : Nat} (hn0 : Nat.ble n0 99999 = true) (hc0 : HA X 0 n0 c0) {a1 : Int} (ha1 : inR a1) {S : St} {q : Int} (h : fn_FP_placed n0 c0 a1 S = some q) : Ev E M_FP_placed [.ref c0, V a1] (WX X S) 0 0 (KI X q S) := by
  refine Ev.of pn_FP rfl (leK rfl) ?_
  show Go E M_FP_placed 0 0 0 [(0, .ref c0), (1, V a1)] [] (WX X S) 0 0 (KI X q S)
  unfold fn_FP_placed at h
  refine vg_iconst (pc := 0) (dK D_FP_placed 0 rfl) ?_
  refine g_istoren (pc := 1) (i0 := 2) (ls2 := [(2, V 0), (0, .ref c0), (1, V a1)]) (dK D_FP_placed 1 rfl) rfl (ltK rfl) rfl ?_
  refine vg_iconst (pc := 2) (dK D_FP_placed 2 rfl) ?_
  refine g_istoren (pc := 3) (i0 := 3) (ls2 := [(3, V 0), (2, V 0), (0, .ref c0), (1, V a1)]) (dK D_FP_placed 3 rfl) rfl (ltK rfl) rfl ?_
  refine bnE h (fun p8 e_p8 h => ?_)
  refine gL_weak (ls' := [(0, .ref c0), (1, V a1), (2, V 0), (3, V 0)]) (sbc 2 rfl (sbc 3 rfl (sbc 1 rfl (sbc 0 rfl sbn)))) ?_
  refine tl_FP_placed_4 hn0 hc0 ha1 (fun hx2_p8 => ?_) FU (0, 0) e_p8 (inRk rfl) (inRk rfl)
  refine g_iloadn (pc := 30) (i0 := 2) (j := 0) (dK D_FP_placed 18 rfl) rfl rfl ?_
  exact vg_iretI (pc := 31) (r := p8) (dK D_FP_placed 19 rfl) rfl (leK rfl) (leK rfl) (fun _ => rfl) (by obtain rfl := Option.some.inj h; exact ⟨rfl, hx2_p8, rfl⟩)
def fn_FP_count (c0 : Nat) (a1 : Int) (S : St) : Option (Int) := if a1 = 0 then (some (g S (tgt c0 3) 1)) else if a1 = 1 then (some (g S (tgt (tgt c0 3) 0) 4)) else if a1 = 2 then (some (g S (tgt c0 3) 2)) else if a1 = 3 then (some (g S (tgt (tgt (tgt c0 3) 0) 0) 7)) else if a1 = 4 then (some (g S (tgt (tgt (tgt c0 3) 0) 1) 5)) else if a1 = 5 then (some (g S (tgt (tgt (tgt c0 3) 0) 2) 2)) else if a1 = 6 then (some (g S (tgt (tgt c0 3) 0) 6)) else if a1 = 7 then (bnO (fn_FP_placed 40 (tgt (tgt (tgt (tgt c0 3) 0) 0) 6) (g S (tgt (tgt (tgt c0 3) 0) 0) 7) S) fun p9 => some p9) else if a1 = 8 then (bnO (fn_FP_placed 10 (tgt (tgt (tgt (tgt c0 3) 0) 1) 4) (g S (tgt (tgt (tgt c0 3) 0) 1) 5) S) fun p11 => some p11) else if a1 = 9 then (bnO (fn_FP_placed 8 (tgt (tgt (tgt (tgt c0 3) 0) 2) 1) (g S (tgt (tgt (tgt c0 3) 0) 2) 2) S) fun p13 => some p13) else if a1 = 10 then (bnO (fn_FP_placed 8 (tgt (tgt (tgt (tgt c0 3) 0) 3) 1) (g S (tgt c0 3) 2) S) fun p15 => some p15) else if a1 = 11 then (bnO (fn_FP_placed 8 (tgt (tgt (tgt (tgt c0 3) 0) 3) 0) (g S (tgt c0 3) 2) S) fun p17 => some p17) else (some (-1))
theorem tf_FP_count {E : EV} {X : XT} {c0 : Nat} (hc0 : HC X 10 c0) {a1 : Int} (ha1 : inR a1) {S : St} {q : Int} (h : fn_FP_count c0 a1 S = some q) : Ev E M_FP_count [.ref c0, V a1] (WX X S) 0 0 (KI X q S) := by
  refine Ev.of pn_FP rfl (leK rfl) ?_
  show Go E M_FP_count 0 0 0 [(0, .ref c0), (1, V a1)] [] (WX X S) 0 0 (KI X q S)
  unfold fn_FP_count at h
  refine g_aloadn (pc := 0) (i0 := 0) (j := 0) (dK D_FP_count_0 0 rfl) rfl rfl ?_
  refine vg_getO (pc := 1) (ci := 10) (f := 3) (dK D_FP_count_0 1 rfl) q_436 hc0 (ltK rfl) (ltK rfl) rfl ?_
  refine vg_getO (pc := 4) (ci := 4) (f := 0) (dK D_FP_count_0 2 rfl) q_303 (hw_10_3 hc0) (ltK rfl) (ltK rfl) rfl ?_
  refine g_astoren (pc := 7) (i0 := 2) (ls2 := [(2, .ref (tgt (tgt c0 3) 0)), (0, .ref c0), (1, V a1)]) (dK D_FP_count_0 3 rfl) rfl (ltK rfl) rfl ?_
  refine g_iloadn (pc := 8) (i0 := 1) (j := 2) (dK D_FP_count_0 4 rfl) rfl rfl ?_
  by_cases hk1 : a1 = 0
  · have h := ifP h hk1
    refine vg_tabK (pc := 9) (kk := 0) (t := 72) (dK D_FP_count_0 5 rfl) hk1 rfl rfl rfl rfl ?_
    refine g_aloadn (pc := 72) (i0 := 0) (j := 1) (dK D_FP_count_0 6 rfl) rfl rfl ?_
    refine vg_getO (pc := 73) (ci := 10) (f := 3) (dK D_FP_count_0 7 rfl) q_436 hc0 (ltK rfl) (ltK rfl) rfl ?_
    refine vg_getI (pc := 76) (ci := 4) (f := 1) (dK D_FP_count_0 8 rfl) q_307 (hw_10_3 hc0) (ltK rfl) (ltK rfl) rfl ?_
    exact vg_iretI (pc := 79) (r := (g S (tgt c0 3) 1)) (dK D_FP_count_0 9 rfl) rfl (leK rfl) (leK rfl) (fun _ => rfl) (by obtain rfl := Option.some.inj h; exact ⟨rfl, (g_in _ _ _), rfl⟩)
  replace h := ifN h hk1
  by_cases hk2 : a1 = 1
  · have h := ifP h hk2
    refine vg_tabK (pc := 9) (kk := 1) (t := 80) (dK D_FP_count_0 5 rfl) hk2 rfl rfl rfl rfl ?_
    refine g_aloadn (pc := 80) (i0 := 2) (j := 0) (dK D_FP_count_0 10 rfl) rfl rfl ?_
    refine vg_getI (pc := 81) (ci := 8) (f := 4) (dK D_FP_count_0 11 rfl) q_252 (hw_4_0 (hw_10_3 hc0)) (ltK rfl) (ltK rfl) rfl ?_
    exact vg_iretI (pc := 84) (r := (g S (tgt (tgt c0 3) 0) 4)) (dK D_FP_count_0 12 rfl) rfl (leK rfl) (leK rfl) (fun _ => rfl) (by obtain rfl := Option.some.inj h; exact ⟨rfl, (g_in _ _ _), rfl⟩)
  replace h := ifN h hk2
  by_cases hk3 : a1 = 2
  · have h := ifP h hk3
    refine vg_tabK (pc := 9) (kk := 2) (t := 85) (dK D_FP_count_0 5 rfl) hk3 rfl rfl rfl rfl ?_
    refine g_aloadn (pc := 85) (i0 := 0) (j := 1) (dK D_FP_count_0 13 rfl) rfl rfl ?_
    refine vg_getO (pc := 86) (ci := 10) (f := 3) (dK D_FP_count_0 14 rfl) q_436 hc0 (ltK rfl) (ltK rfl) rfl ?_
    refine vg_getI (pc := 89) (ci := 4) (f := 2) (dK D_FP_count_0 15 rfl) q_311 (hw_10_3 hc0) (ltK rfl) (ltK rfl) rfl ?_
    exact vg_iretI (pc := 92) (r := (g S (tgt c0 3) 2)) (dK D_FP_count_0 16 rfl) rfl (leK rfl) (leK rfl) (fun _ => rfl) (by obtain rfl := Option.some.inj h; exact ⟨rfl, (g_in _ _ _), rfl⟩)
  replace h := ifN h hk3
  by_cases hk4 : a1 = 3
  · have h := ifP h hk4
    refine vg_tabK (pc := 9) (kk := 3) (t := 93) (dK D_FP_count_0 5 rfl) hk4 rfl rfl rfl rfl ?_
    refine g_aloadn (pc := 93) (i0 := 2) (j := 0) (dK D_FP_count_0 17 rfl) rfl rfl ?_
    refine vg_getO (pc := 94) (ci := 8) (f := 0) (dK D_FP_count_0 18 rfl) q_235 (hw_4_0 (hw_10_3 hc0)) (ltK rfl) (ltK rfl) rfl ?_
    refine vg_getI (pc := 97) (ci := 0) (f := 7) (dK D_FP_count_0 19 rfl) q_120 (hw_8_0 (hw_4_0 (hw_10_3 hc0))) (ltK rfl) (ltK rfl) rfl ?_
    exact vg_iretI (pc := 100) (r := (g S (tgt (tgt (tgt c0 3) 0) 0) 7)) (dK D_FP_count_0 20 rfl) rfl (leK rfl) (leK rfl) (fun _ => rfl) (by obtain rfl := Option.some.inj h; exact ⟨rfl, (g_in _ _ _), rfl⟩)
  replace h := ifN h hk4
  by_cases hk5 : a1 = 4
  · have h := ifP h hk5
    refine vg_tabK (pc := 9) (kk := 4) (t := 101) (dK D_FP_count_0 5 rfl) hk5 rfl rfl rfl rfl ?_
    refine g_aloadn (pc := 101) (i0 := 2) (j := 0) (dK D_FP_count_0 21 rfl) rfl rfl ?_
    refine vg_getO (pc := 102) (ci := 8) (f := 1) (dK D_FP_count_0 22 rfl) q_240 (hw_4_0 (hw_10_3 hc0)) (ltK rfl) (ltK rfl) rfl ?_
    refine vg_getI (pc := 105) (ci := 9) (f := 5) (dK D_FP_count_0 23 rfl) q_168 (hw_8_1 (hw_4_0 (hw_10_3 hc0))) (ltK rfl) (ltK rfl) rfl ?_
    exact vg_iretI (pc := 108) (r := (g S (tgt (tgt (tgt c0 3) 0) 1) 5)) (dK D_FP_count_0 24 rfl) rfl (leK rfl) (leK rfl) (fun _ => rfl) (by obtain rfl := Option.some.inj h; exact ⟨rfl, (g_in _ _ _), rfl⟩)
  replace h := ifN h hk5
  by_cases hk6 : a1 = 5
  · have h := ifP h hk6
    refine vg_tabK (pc := 9) (kk := 5) (t := 109) (dK D_FP_count_0 5 rfl) hk6 rfl rfl rfl rfl ?_
    refine g_aloadn (pc := 109) (i0 := 2) (j := 0) (dK D_FP_count_0 25 rfl) rfl rfl ?_
    refine vg_getO (pc := 110) (ci := 8) (f := 2) (dK D_FP_count_0 26 rfl) q_243 (hw_4_0 (hw_10_3 hc0)) (ltK rfl) (ltK rfl) rfl ?_
    refine vg_getI (pc := 113) (ci := 7) (f := 2) (dK D_FP_count_0 27 rfl) q_196 (hw_8_2 (hw_4_0 (hw_10_3 hc0))) (ltK rfl) (ltK rfl) rfl ?_
    exact vg_iretI (pc := 116) (r := (g S (tgt (tgt (tgt c0 3) 0) 2) 2)) (dK D_FP_count_0 28 rfl) rfl (leK rfl) (leK rfl) (fun _ => rfl) (by obtain rfl := Option.some.inj h; exact ⟨rfl, (g_in _ _ _), rfl⟩)
  replace h := ifN h hk6
  by_cases hk7 : a1 = 6
  · have h := ifP h hk7
    refine vg_tabK (pc := 9) (kk := 6) (t := 117) (dK D_FP_count_0 5 rfl) hk7 rfl rfl rfl rfl ?_
    refine g_aloadn (pc := 117) (i0 := 2) (j := 0) (dK D_FP_count_0 29 rfl) rfl rfl ?_
    refine vg_getI (pc := 118) (ci := 8) (f := 6) (dK D_FP_count_0 30 rfl) q_258 (hw_4_0 (hw_10_3 hc0)) (ltK rfl) (ltK rfl) rfl ?_
    exact vg_iretI (pc := 121) (r := (g S (tgt (tgt c0 3) 0) 6)) (dK D_FP_count_0 31 rfl) rfl (leK rfl) (leK rfl) (fun _ => rfl) (by obtain rfl := Option.some.inj h; exact ⟨rfl, (g_in _ _ _), rfl⟩)
  replace h := ifN h hk7
  by_cases hk8 : a1 = 7
  · have h := ifP h hk8
    refine vg_tabK (pc := 9) (kk := 7) (t := 122) (dK D_FP_count_0 5 rfl) hk8 rfl rfl rfl rfl ?_
    refine g_aloadn (pc := 122) (i0 := 2) (j := 0) (dK D_FP_count_0 32 rfl) rfl rfl ?_
    refine vg_getO (pc := 123) (ci := 8) (f := 0) (dK D_FP_count_0 33 rfl) q_235 (hw_4_0 (hw_10_3 hc0)) (ltK rfl) (ltK rfl) rfl ?_
    refine vg_getA (pc := 126) (ci := 0) (f := 6) (dK D_FP_count_0 34 rfl) q_114 (hw_8_0 (hw_4_0 (hw_10_3 hc0))) (ltK rfl) (ltK rfl) rfl ?_
    refine g_aloadn (pc := 129) (i0 := 2) (j := 0) (dK D_FP_count_0 35 rfl) rfl rfl ?_
    refine vg_getO (pc := 130) (ci := 8) (f := 0) (dK D_FP_count_0 36 rfl) q_235 (hw_4_0 (hw_10_3 hc0)) (ltK rfl) (ltK rfl) rfl ?_
    refine vg_getI (pc := 133) (ci := 0) (f := 7) (dK D_FP_count_0 37 rfl) q_120 (hw_8_0 (hw_4_0 (hw_10_3 hc0))) (ltK rfl) (ltK rfl) rfl ?_
    refine bnE h (fun p9 e_p9 h => ?_)
    refine vg_cS (pc := 136) (As := [.ref (tgt (tgt (tgt (tgt c0 3) 0) 0) 6), V (g S (tgt (tgt (tgt c0 3) 0) 0) 7)]) (rest := []) (mc' := 0) (ms' := 0) (dK D_FP_count_0 38 rfl) K_FP_124 (fitK rfl) rfl (leK rfl) (leK rfl) (leK rfl) (tf_FP_placed rfl (hw_0_6 (hw_8_0 (hw_4_0 (hw_10_3 hc0)))) (g_in _ _ _) e_p9) (kcI (fun h_p9 => ?_))
    exact vg_iretI (pc := 139) (r := p9) (dK D_FP_count_0 39 rfl) rfl (leK rfl) (leK rfl) (fun _ => rfl) (by obtain rfl := Option.some.inj h; exact ⟨rfl, h_p9, rfl⟩)
  replace h := ifN h hk8
  by_cases hk10 : a1 = 8
  · have h := ifP h hk10
    refine vg_tabK (pc := 9) (kk := 8) (t := 140) (dK D_FP_count_0 5 rfl) hk10 rfl rfl rfl rfl ?_
    refine g_aloadn (pc := 140) (i0 := 2) (j := 0) (dK D_FP_count_0 40 rfl) rfl rfl ?_
    refine vg_getO (pc := 141) (ci := 8) (f := 1) (dK D_FP_count_0 41 rfl) q_240 (hw_4_0 (hw_10_3 hc0)) (ltK rfl) (ltK rfl) rfl ?_
    refine vg_getA (pc := 144) (ci := 9) (f := 4) (dK D_FP_count_0 42 rfl) q_162 (hw_8_1 (hw_4_0 (hw_10_3 hc0))) (ltK rfl) (ltK rfl) rfl ?_
    refine g_aloadn (pc := 147) (i0 := 2) (j := 0) (dK D_FP_count_0 43 rfl) rfl rfl ?_
    refine vg_getO (pc := 148) (ci := 8) (f := 1) (dK D_FP_count_0 44 rfl) q_240 (hw_4_0 (hw_10_3 hc0)) (ltK rfl) (ltK rfl) rfl ?_
    refine vg_getI (pc := 151) (ci := 9) (f := 5) (dK D_FP_count_0 45 rfl) q_168 (hw_8_1 (hw_4_0 (hw_10_3 hc0))) (ltK rfl) (ltK rfl) rfl ?_
    refine bnE h (fun p11 e_p11 h => ?_)
    refine vg_cS (pc := 154) (As := [.ref (tgt (tgt (tgt (tgt c0 3) 0) 1) 4), V (g S (tgt (tgt (tgt c0 3) 0) 1) 5)]) (rest := []) (mc' := 0) (ms' := 0) (dK D_FP_count_0 46 rfl) K_FP_124 (fitK rfl) rfl (leK rfl) (leK rfl) (leK rfl) (tf_FP_placed rfl (hw_9_4 (hw_8_1 (hw_4_0 (hw_10_3 hc0)))) (g_in _ _ _) e_p11) (kcI (fun h_p11 => ?_))
    exact vg_iretI (pc := 157) (r := p11) (dK D_FP_count_0 47 rfl) rfl (leK rfl) (leK rfl) (fun _ => rfl) (by obtain rfl := Option.some.inj h; exact ⟨rfl, h_p11, rfl⟩)
  replace h := ifN h hk10
  by_cases hk12 : a1 = 9
  · have h := ifP h hk12
    refine vg_tabK (pc := 9) (kk := 9) (t := 158) (dK D_FP_count_0 5 rfl) hk12 rfl rfl rfl rfl ?_
    refine g_aloadn (pc := 158) (i0 := 2) (j := 0) (dK D_FP_count_0 48 rfl) rfl rfl ?_
    refine vg_getO (pc := 159) (ci := 8) (f := 2) (dK D_FP_count_0 49 rfl) q_243 (hw_4_0 (hw_10_3 hc0)) (ltK rfl) (ltK rfl) rfl ?_
    refine vg_getA (pc := 162) (ci := 7) (f := 1) (dK D_FP_count_1 0 rfl) q_193 (hw_8_2 (hw_4_0 (hw_10_3 hc0))) (ltK rfl) (ltK rfl) rfl ?_
    refine g_aloadn (pc := 165) (i0 := 2) (j := 0) (dK D_FP_count_1 1 rfl) rfl rfl ?_
    refine vg_getO (pc := 166) (ci := 8) (f := 2) (dK D_FP_count_1 2 rfl) q_243 (hw_4_0 (hw_10_3 hc0)) (ltK rfl) (ltK rfl) rfl ?_
    refine vg_getI (pc := 169) (ci := 7) (f := 2) (dK D_FP_count_1 3 rfl) q_196 (hw_8_2 (hw_4_0 (hw_10_3 hc0))) (ltK rfl) (ltK rfl) rfl ?_
    refine bnE h (fun p13 e_p13 h => ?_)
    refine vg_cS (pc := 172) (As := [.ref (tgt (tgt (tgt (tgt c0 3) 0) 2) 1), V (g S (tgt (tgt (tgt c0 3) 0) 2) 2)]) (rest := []) (mc' := 0) (ms' := 0) (dK D_FP_count_1 4 rfl) K_FP_124 (fitK rfl) rfl (leK rfl) (leK rfl) (leK rfl) (tf_FP_placed rfl (hw_7_1 (hw_8_2 (hw_4_0 (hw_10_3 hc0)))) (g_in _ _ _) e_p13) (kcI (fun h_p13 => ?_))
    exact vg_iretI (pc := 175) (r := p13) (dK D_FP_count_1 5 rfl) rfl (leK rfl) (leK rfl) (fun _ => rfl) (by obtain rfl := Option.some.inj h; exact ⟨rfl, h_p13, rfl⟩)
  replace h := ifN h hk12
  by_cases hk14 : a1 = 10
  · have h := ifP h hk14
    refine vg_tabK (pc := 9) (kk := 10) (t := 176) (dK D_FP_count_0 5 rfl) hk14 rfl rfl rfl rfl ?_
    refine g_aloadn (pc := 176) (i0 := 2) (j := 0) (dK D_FP_count_1 6 rfl) rfl rfl ?_
    refine vg_getO (pc := 177) (ci := 8) (f := 3) (dK D_FP_count_1 7 rfl) q_248 (hw_4_0 (hw_10_3 hc0)) (ltK rfl) (ltK rfl) rfl ?_
    refine vg_getA (pc := 180) (ci := 2) (f := 1) (dK D_FP_count_1 8 rfl) q_218 (hw_8_3 (hw_4_0 (hw_10_3 hc0))) (ltK rfl) (ltK rfl) rfl ?_
    refine g_aloadn (pc := 183) (i0 := 0) (j := 1) (dK D_FP_count_1 9 rfl) rfl rfl ?_
    refine vg_getO (pc := 184) (ci := 10) (f := 3) (dK D_FP_count_1 10 rfl) q_436 hc0 (ltK rfl) (ltK rfl) rfl ?_
    refine vg_getI (pc := 187) (ci := 4) (f := 2) (dK D_FP_count_1 11 rfl) q_311 (hw_10_3 hc0) (ltK rfl) (ltK rfl) rfl ?_
    refine bnE h (fun p15 e_p15 h => ?_)
    refine vg_cS (pc := 190) (As := [.ref (tgt (tgt (tgt (tgt c0 3) 0) 3) 1), V (g S (tgt c0 3) 2)]) (rest := []) (mc' := 0) (ms' := 0) (dK D_FP_count_1 12 rfl) K_FP_124 (fitK rfl) rfl (leK rfl) (leK rfl) (leK rfl) (tf_FP_placed rfl (hw_2_1 (hw_8_3 (hw_4_0 (hw_10_3 hc0)))) (g_in _ _ _) e_p15) (kcI (fun h_p15 => ?_))
    exact vg_iretI (pc := 193) (r := p15) (dK D_FP_count_1 13 rfl) rfl (leK rfl) (leK rfl) (fun _ => rfl) (by obtain rfl := Option.some.inj h; exact ⟨rfl, h_p15, rfl⟩)
  replace h := ifN h hk14
  by_cases hk16 : a1 = 11
  · have h := ifP h hk16
    refine vg_tabK (pc := 9) (kk := 11) (t := 194) (dK D_FP_count_0 5 rfl) hk16 rfl rfl rfl rfl ?_
    refine g_aloadn (pc := 194) (i0 := 2) (j := 0) (dK D_FP_count_1 14 rfl) rfl rfl ?_
    refine vg_getO (pc := 195) (ci := 8) (f := 3) (dK D_FP_count_1 15 rfl) q_248 (hw_4_0 (hw_10_3 hc0)) (ltK rfl) (ltK rfl) rfl ?_
    refine vg_getA (pc := 198) (ci := 2) (f := 0) (dK D_FP_count_1 16 rfl) q_214 (hw_8_3 (hw_4_0 (hw_10_3 hc0))) (ltK rfl) (ltK rfl) rfl ?_
    refine g_aloadn (pc := 201) (i0 := 0) (j := 1) (dK D_FP_count_1 17 rfl) rfl rfl ?_
    refine vg_getO (pc := 202) (ci := 10) (f := 3) (dK D_FP_count_1 18 rfl) q_436 hc0 (ltK rfl) (ltK rfl) rfl ?_
    refine vg_getI (pc := 205) (ci := 4) (f := 2) (dK D_FP_count_1 19 rfl) q_311 (hw_10_3 hc0) (ltK rfl) (ltK rfl) rfl ?_
    refine bnE h (fun p17 e_p17 h => ?_)
    refine vg_cS (pc := 208) (As := [.ref (tgt (tgt (tgt (tgt c0 3) 0) 3) 0), V (g S (tgt c0 3) 2)]) (rest := []) (mc' := 0) (ms' := 0) (dK D_FP_count_1 20 rfl) K_FP_124 (fitK rfl) rfl (leK rfl) (leK rfl) (leK rfl) (tf_FP_placed rfl (hw_2_0 (hw_8_3 (hw_4_0 (hw_10_3 hc0)))) (g_in _ _ _) e_p17) (kcI (fun h_p17 => ?_))
    exact vg_iretI (pc := 211) (r := p17) (dK D_FP_count_1 21 rfl) rfl (leK rfl) (leK rfl) (fun _ => rfl) (by obtain rfl := Option.some.inj h; exact ⟨rfl, h_p17, rfl⟩)
  replace h := ifN h hk16
  refine vg_tabD (pc := 9) (t := 212) (lo := 0) (hi := 11) (dK D_FP_count_0 5 rfl) ha1 (by omega) rfl ?_
  refine vg_iconst (pc := 212) (dK D_FP_count_1 22 rfl) ?_
  exact vg_iretI (pc := 213) (r := (-1)) (dK D_FP_count_1 23 rfl) rfl (leK rfl) (leK rfl) (fun _ => rfl) (by obtain rfl := Option.some.inj h; exact ⟨rfl, (inRk rfl), rfl⟩)
def lb_FP_digest_12 (c0 : Nat) (c1 : Nat) (S : St) (go : Int × Int → Option (Int)) (a2 : Int) (a3 : Int) : Option (Int) := if (g S (tgt c1 0) 7) ≤ a3 then (some a2) else (if 0 ≤ a3 ∧ a3 < 40 then (nm (wr ((31 * a2) + (g S (tgt (tgt c1 0) 6) a3.toNat))) fun v2 => nm (wr (a3 + 1)) fun v3 => go (v2, v3)) else none)
def lo_FP_digest_12 (c0 : Nat) (c1 : Nat) (S : St) : Nat → Int × Int → Option (Int) := lp fun go p => lb_FP_digest_12 c0 c1 S go p.1 p.2
theorem tl_FP_digest_12 {E : EV} {X : XT} {c0 : Nat} (hc0 : HC X 10 c0) {c1 : Nat} (hc1 : HC X 8 c1) {S : St} {K : RK → PS → Prop} {q : Int} (hx : inR q → Go E M_FP_digest 0 0 44 [(0, .ref c0), (1, .ref c1), (2, V q)] [] (WX X S) 0 0 K) : ∀ n a, lo_FP_digest_12 c0 c1 S n a = some q → inR a.1 → inR a.2 → Go E M_FP_digest 0 0 12 [(0, .ref c0), (1, .ref c1), (2, V a.1), (3, V a.2)] [] (WX X S) 0 0 K := by
  refine lp_ind (P := fun a : Int × Int => inR a.1 → inR a.2 → Go E M_FP_digest 0 0 12 [(0, .ref c0), (1, .ref c1), (2, V a.1), (3, V a.2)] [] (WX X S) 0 0 K) (fun go ih a h => ?_)
  obtain ⟨a2, a3⟩ := a
  intro ha2 ha3
  show Go E M_FP_digest 0 0 12 [(0, .ref c0), (1, .ref c1), (2, V a2), (3, V a3)] [] (WX X S) 0 0 K
  replace h : lb_FP_digest_12 c0 c1 S go a2 a3 = some q := h
  unfold lb_FP_digest_12 at h
  refine g_iloadn (pc := 12) (i0 := 3) (j := 3) (dK D_FP_digest_0 8 rfl) rfl rfl ?_
  refine g_aloadn (pc := 13) (i0 := 1) (j := 1) (dK D_FP_digest_0 9 rfl) rfl rfl ?_
  refine vg_getO (pc := 14) (ci := 8) (f := 0) (dK D_FP_digest_0 10 rfl) q_235 hc1 (ltK rfl) (ltK rfl) rfl ?_
  refine vg_getI (pc := 17) (ci := 0) (f := 7) (dK D_FP_digest_0 11 rfl) q_120 (hw_8_0 hc1) (ltK rfl) (ltK rfl) rfl ?_
  refine vg_icmp_ge (pc := 20) (t := 44) (dK D_FP_digest_0 12 rfl) rfl ha3 (g_in _ _ _) (fun hc4 => ?_) (fun hc4 => ?_)
  · replace h := ifP h hc4
    obtain rfl := Option.some.inj h
    refine gL_weak (ls' := [(0, .ref c0), (1, .ref c1), (2, V a2)]) (sbc 0 rfl (sbc 1 rfl (sbc 2 rfl sbn))) ?_
    exact hx ha2
  · replace h := ifN h hc4
    refine vg_bipush (pc := 23) (dK D_FP_digest_0 13 rfl) rfl ?_
    refine g_iloadn (pc := 25) (i0 := 2) (j := 2) (dK D_FP_digest_0 14 rfl) rfl rfl ?_
    refine vg_imul (pc := 26) (dK D_FP_digest_0 15 rfl) ?_
    refine g_aloadn (pc := 27) (i0 := 1) (j := 1) (dK D_FP_digest_0 16 rfl) rfl rfl ?_
    refine vg_getO (pc := 28) (ci := 8) (f := 0) (dK D_FP_digest_0 17 rfl) q_235 hc1 (ltK rfl) (ltK rfl) rfl ?_
    refine vg_getA (pc := 31) (ci := 0) (f := 6) (dK D_FP_digest_0 18 rfl) q_114 (hw_8_0 hc1) (ltK rfl) (ltK rfl) rfl ?_
    refine g_iloadn (pc := 34) (i0 := 3) (j := 3) (dK D_FP_digest_0 19 rfl) rfl rfl ?_
    refine gdE h (fun hi1 h => ?_)
    refine vg_iaload (pc := 35) (j := a3.toNat) (dK D_FP_digest_0 20 rfl) (hw_0_6 (hw_8_0 hc1)) rfl hi1 rfl ?_
    refine vg_iadd (pc := 36) (dK D_FP_digest_0 21 rfl) ?_
    refine nmE h (fun v2 e_v2 h => ?_)
    refine gtop e_v2 ?_
    refine g_istoren (pc := 37) (i0 := 2) (ls2 := [(2, V v2), (0, .ref c0), (1, .ref c1), (3, V a3)]) (dK D_FP_digest_0 22 rfl) rfl (ltK rfl) rfl ?_
    refine nmE h (fun v3 e_v3 h => ?_)
    refine vg_iinc (pc := 38) (j := 3) (a := a3) (z := 1) (ls2 := [(3, V v3), (2, V v2), (0, .ref c0), (1, .ref c1)]) (dK D_FP_digest_0 23 rfl) rfl e_v3 (ltK rfl) rfl ?_
    refine g_goto (pc := 41) (tgt := 12) (dK D_FP_digest_0 24 rfl) rfl ?_
    refine gL_weak (ls' := [(0, .ref c0), (1, .ref c1), (2, V v2), (3, V v3)]) (sbc 2 rfl (sbc 3 rfl (sbc 1 rfl (sbc 0 rfl sbn)))) ?_
    replace h := ih _ h
    exact h (Vn_in e_v2) (Vn_in e_v3)
def lb_FP_digest_46 (c0 : Nat) (c1 : Nat) (S : St) (go : Int × Int → Option (Int)) (a2 : Int) (a3 : Int) : Option (Int) := if (g S (tgt c1 1) 5) ≤ a3 then (some a2) else (if 0 ≤ a3 ∧ a3 < 10 then (nm (wr ((31 * a2) + (g S (tgt (tgt c1 1) 4) a3.toNat))) fun v7 => nm (wr (a3 + 1)) fun v8 => go (v7, v8)) else none)
def lo_FP_digest_46 (c0 : Nat) (c1 : Nat) (S : St) : Nat → Int × Int → Option (Int) := lp fun go p => lb_FP_digest_46 c0 c1 S go p.1 p.2
theorem tl_FP_digest_46 {E : EV} {X : XT} {c0 : Nat} (hc0 : HC X 10 c0) {c1 : Nat} (hc1 : HC X 8 c1) {S : St} {K : RK → PS → Prop} {q : Int} (hx : inR q → Go E M_FP_digest 0 0 78 [(0, .ref c0), (1, .ref c1), (2, V q)] [] (WX X S) 0 0 K) : ∀ n a, lo_FP_digest_46 c0 c1 S n a = some q → inR a.1 → inR a.2 → Go E M_FP_digest 0 0 46 [(0, .ref c0), (1, .ref c1), (2, V a.1), (3, V a.2)] [] (WX X S) 0 0 K := by
  refine lp_ind (P := fun a : Int × Int => inR a.1 → inR a.2 → Go E M_FP_digest 0 0 46 [(0, .ref c0), (1, .ref c1), (2, V a.1), (3, V a.2)] [] (WX X S) 0 0 K) (fun go ih a h => ?_)
  obtain ⟨a2, a3⟩ := a
  intro ha2 ha3
  show Go E M_FP_digest 0 0 46 [(0, .ref c0), (1, .ref c1), (2, V a2), (3, V a3)] [] (WX X S) 0 0 K
  replace h : lb_FP_digest_46 c0 c1 S go a2 a3 = some q := h
  unfold lb_FP_digest_46 at h
  refine g_iloadn (pc := 46) (i0 := 3) (j := 3) (dK D_FP_digest_0 27 rfl) rfl rfl ?_
  refine g_aloadn (pc := 47) (i0 := 1) (j := 1) (dK D_FP_digest_0 28 rfl) rfl rfl ?_
  refine vg_getO (pc := 48) (ci := 8) (f := 1) (dK D_FP_digest_0 29 rfl) q_240 hc1 (ltK rfl) (ltK rfl) rfl ?_
  refine vg_getI (pc := 51) (ci := 9) (f := 5) (dK D_FP_digest_0 30 rfl) q_168 (hw_8_1 hc1) (ltK rfl) (ltK rfl) rfl ?_
  refine vg_icmp_ge (pc := 54) (t := 78) (dK D_FP_digest_0 31 rfl) rfl ha3 (g_in _ _ _) (fun hc9 => ?_) (fun hc9 => ?_)
  · replace h := ifP h hc9
    obtain rfl := Option.some.inj h
    refine gL_weak (ls' := [(0, .ref c0), (1, .ref c1), (2, V a2)]) (sbc 0 rfl (sbc 1 rfl (sbc 2 rfl sbn))) ?_
    exact hx ha2
  · replace h := ifN h hc9
    refine vg_bipush (pc := 57) (dK D_FP_digest_0 32 rfl) rfl ?_
    refine g_iloadn (pc := 59) (i0 := 2) (j := 2) (dK D_FP_digest_0 33 rfl) rfl rfl ?_
    refine vg_imul (pc := 60) (dK D_FP_digest_0 34 rfl) ?_
    refine g_aloadn (pc := 61) (i0 := 1) (j := 1) (dK D_FP_digest_0 35 rfl) rfl rfl ?_
    refine vg_getO (pc := 62) (ci := 8) (f := 1) (dK D_FP_digest_0 36 rfl) q_240 hc1 (ltK rfl) (ltK rfl) rfl ?_
    refine vg_getA (pc := 65) (ci := 9) (f := 4) (dK D_FP_digest_0 37 rfl) q_162 (hw_8_1 hc1) (ltK rfl) (ltK rfl) rfl ?_
    refine g_iloadn (pc := 68) (i0 := 3) (j := 3) (dK D_FP_digest_0 38 rfl) rfl rfl ?_
    refine gdE h (fun hi6 h => ?_)
    refine vg_iaload (pc := 69) (j := a3.toNat) (dK D_FP_digest_0 39 rfl) (hw_9_4 (hw_8_1 hc1)) rfl hi6 rfl ?_
    refine vg_iadd (pc := 70) (dK D_FP_digest_0 40 rfl) ?_
    refine nmE h (fun v7 e_v7 h => ?_)
    refine gtop e_v7 ?_
    refine g_istoren (pc := 71) (i0 := 2) (ls2 := [(2, V v7), (0, .ref c0), (1, .ref c1), (3, V a3)]) (dK D_FP_digest_0 41 rfl) rfl (ltK rfl) rfl ?_
    refine nmE h (fun v8 e_v8 h => ?_)
    refine vg_iinc (pc := 72) (j := 3) (a := a3) (z := 1) (ls2 := [(3, V v8), (2, V v7), (0, .ref c0), (1, .ref c1)]) (dK D_FP_digest_0 42 rfl) rfl e_v8 (ltK rfl) rfl ?_
    refine g_goto (pc := 75) (tgt := 46) (dK D_FP_digest_0 43 rfl) rfl ?_
    refine gL_weak (ls' := [(0, .ref c0), (1, .ref c1), (2, V v7), (3, V v8)]) (sbc 2 rfl (sbc 3 rfl (sbc 1 rfl (sbc 0 rfl sbn)))) ?_
    replace h := ih _ h
    exact h (Vn_in e_v7) (Vn_in e_v8)
def lb_FP_digest_80 (c0 : Nat) (c1 : Nat) (S : St) (go : Int × Int → Option (Int)) (a2 : Int) (a3 : Int) : Option (Int) := if (g S (tgt c1 2) 2) ≤ a3 then (some a2) else (if 0 ≤ a3 ∧ a3 < 8 then (nm (wr ((31 * a2) + (g S (tgt (tgt c1 2) 1) a3.toNat))) fun v12 => nm (wr (a3 + 1)) fun v13 => go (v12, v13)) else none)
def lo_FP_digest_80 (c0 : Nat) (c1 : Nat) (S : St) : Nat → Int × Int → Option (Int) := lp fun go p => lb_FP_digest_80 c0 c1 S go p.1 p.2
theorem tl_FP_digest_80 {E : EV} {X : XT} {c0 : Nat} (hc0 : HC X 10 c0) {c1 : Nat} (hc1 : HC X 8 c1) {S : St} {K : RK → PS → Prop} {q : Int} (hx : inR q → Go E M_FP_digest 0 0 112 [(0, .ref c0), (1, .ref c1), (2, V q)] [] (WX X S) 0 0 K) : ∀ n a, lo_FP_digest_80 c0 c1 S n a = some q → inR a.1 → inR a.2 → Go E M_FP_digest 0 0 80 [(0, .ref c0), (1, .ref c1), (2, V a.1), (3, V a.2)] [] (WX X S) 0 0 K := by
  refine lp_ind (P := fun a : Int × Int => inR a.1 → inR a.2 → Go E M_FP_digest 0 0 80 [(0, .ref c0), (1, .ref c1), (2, V a.1), (3, V a.2)] [] (WX X S) 0 0 K) (fun go ih a h => ?_)
  obtain ⟨a2, a3⟩ := a
  intro ha2 ha3
  show Go E M_FP_digest 0 0 80 [(0, .ref c0), (1, .ref c1), (2, V a2), (3, V a3)] [] (WX X S) 0 0 K
  replace h : lb_FP_digest_80 c0 c1 S go a2 a3 = some q := h
  unfold lb_FP_digest_80 at h
  refine g_iloadn (pc := 80) (i0 := 3) (j := 3) (dK D_FP_digest_0 46 rfl) rfl rfl ?_
  refine g_aloadn (pc := 81) (i0 := 1) (j := 1) (dK D_FP_digest_0 47 rfl) rfl rfl ?_
  refine vg_getO (pc := 82) (ci := 8) (f := 2) (dK D_FP_digest_0 48 rfl) q_243 hc1 (ltK rfl) (ltK rfl) rfl ?_
  refine vg_getI (pc := 85) (ci := 7) (f := 2) (dK D_FP_digest_0 49 rfl) q_196 (hw_8_2 hc1) (ltK rfl) (ltK rfl) rfl ?_
  refine vg_icmp_ge (pc := 88) (t := 112) (dK D_FP_digest_1 0 rfl) rfl ha3 (g_in _ _ _) (fun hc14 => ?_) (fun hc14 => ?_)
  · replace h := ifP h hc14
    obtain rfl := Option.some.inj h
    refine gL_weak (ls' := [(0, .ref c0), (1, .ref c1), (2, V a2)]) (sbc 0 rfl (sbc 1 rfl (sbc 2 rfl sbn))) ?_
    exact hx ha2
  · replace h := ifN h hc14
    refine vg_bipush (pc := 91) (dK D_FP_digest_1 1 rfl) rfl ?_
    refine g_iloadn (pc := 93) (i0 := 2) (j := 2) (dK D_FP_digest_1 2 rfl) rfl rfl ?_
    refine vg_imul (pc := 94) (dK D_FP_digest_1 3 rfl) ?_
    refine g_aloadn (pc := 95) (i0 := 1) (j := 1) (dK D_FP_digest_1 4 rfl) rfl rfl ?_
    refine vg_getO (pc := 96) (ci := 8) (f := 2) (dK D_FP_digest_1 5 rfl) q_243 hc1 (ltK rfl) (ltK rfl) rfl ?_
    refine vg_getA (pc := 99) (ci := 7) (f := 1) (dK D_FP_digest_1 6 rfl) q_193 (hw_8_2 hc1) (ltK rfl) (ltK rfl) rfl ?_
    refine g_iloadn (pc := 102) (i0 := 3) (j := 3) (dK D_FP_digest_1 7 rfl) rfl rfl ?_
    refine gdE h (fun hi11 h => ?_)
    refine vg_iaload (pc := 103) (j := a3.toNat) (dK D_FP_digest_1 8 rfl) (hw_7_1 (hw_8_2 hc1)) rfl hi11 rfl ?_
    refine vg_iadd (pc := 104) (dK D_FP_digest_1 9 rfl) ?_
    refine nmE h (fun v12 e_v12 h => ?_)
    refine gtop e_v12 ?_
    refine g_istoren (pc := 105) (i0 := 2) (ls2 := [(2, V v12), (0, .ref c0), (1, .ref c1), (3, V a3)]) (dK D_FP_digest_1 10 rfl) rfl (ltK rfl) rfl ?_
    refine nmE h (fun v13 e_v13 h => ?_)
    refine vg_iinc (pc := 106) (j := 3) (a := a3) (z := 1) (ls2 := [(3, V v13), (2, V v12), (0, .ref c0), (1, .ref c1)]) (dK D_FP_digest_1 11 rfl) rfl e_v13 (ltK rfl) rfl ?_
    refine g_goto (pc := 109) (tgt := 80) (dK D_FP_digest_1 12 rfl) rfl ?_
    refine gL_weak (ls' := [(0, .ref c0), (1, .ref c1), (2, V v12), (3, V v13)]) (sbc 2 rfl (sbc 3 rfl (sbc 1 rfl (sbc 0 rfl sbn)))) ?_
    replace h := ih _ h
    exact h (Vn_in e_v12) (Vn_in e_v13)
def lb_FP_digest_114 (c0 : Nat) (c1 : Nat) (S : St) (go : Int × Int → Option (Int)) (a2 : Int) (a3 : Int) : Option (Int) := if (g S (tgt c0 3) 2) ≤ a3 then (some a2) else (if 0 ≤ a3 ∧ a3 < 8 then (nm (wr ((31 * a2) + (g S (tgt (tgt c1 3) 1) a3.toNat))) fun v17 => nm (wr (a3 + 1)) fun v18 => go (v17, v18)) else none)
def lo_FP_digest_114 (c0 : Nat) (c1 : Nat) (S : St) : Nat → Int × Int → Option (Int) := lp fun go p => lb_FP_digest_114 c0 c1 S go p.1 p.2
theorem tl_FP_digest_114 {E : EV} {X : XT} {c0 : Nat} (hc0 : HC X 10 c0) {c1 : Nat} (hc1 : HC X 8 c1) {S : St} {K : RK → PS → Prop} {q : Int} (hx : inR q → Go E M_FP_digest 0 0 146 [(2, V q)] [] (WX X S) 0 0 K) : ∀ n a, lo_FP_digest_114 c0 c1 S n a = some q → inR a.1 → inR a.2 → Go E M_FP_digest 0 0 114 [(0, .ref c0), (1, .ref c1), (2, V a.1), (3, V a.2)] [] (WX X S) 0 0 K := by
  refine lp_ind (P := fun a : Int × Int => inR a.1 → inR a.2 → Go E M_FP_digest 0 0 114 [(0, .ref c0), (1, .ref c1), (2, V a.1), (3, V a.2)] [] (WX X S) 0 0 K) (fun go ih a h => ?_)
  obtain ⟨a2, a3⟩ := a
  intro ha2 ha3
  show Go E M_FP_digest 0 0 114 [(0, .ref c0), (1, .ref c1), (2, V a2), (3, V a3)] [] (WX X S) 0 0 K
  replace h : lb_FP_digest_114 c0 c1 S go a2 a3 = some q := h
  unfold lb_FP_digest_114 at h
  refine g_iloadn (pc := 114) (i0 := 3) (j := 3) (dK D_FP_digest_1 15 rfl) rfl rfl ?_
  refine g_aloadn (pc := 115) (i0 := 0) (j := 0) (dK D_FP_digest_1 16 rfl) rfl rfl ?_
  refine vg_getO (pc := 116) (ci := 10) (f := 3) (dK D_FP_digest_1 17 rfl) q_436 hc0 (ltK rfl) (ltK rfl) rfl ?_
  refine vg_getI (pc := 119) (ci := 4) (f := 2) (dK D_FP_digest_1 18 rfl) q_311 (hw_10_3 hc0) (ltK rfl) (ltK rfl) rfl ?_
  refine vg_icmp_ge (pc := 122) (t := 146) (dK D_FP_digest_1 19 rfl) rfl ha3 (g_in _ _ _) (fun hc19 => ?_) (fun hc19 => ?_)
  · replace h := ifP h hc19
    obtain rfl := Option.some.inj h
    refine gL_weak (ls' := [(2, V a2)]) (sbc 2 rfl sbn) ?_
    exact hx ha2
  · replace h := ifN h hc19
    refine vg_bipush (pc := 125) (dK D_FP_digest_1 20 rfl) rfl ?_
    refine g_iloadn (pc := 127) (i0 := 2) (j := 2) (dK D_FP_digest_1 21 rfl) rfl rfl ?_
    refine vg_imul (pc := 128) (dK D_FP_digest_1 22 rfl) ?_
    refine g_aloadn (pc := 129) (i0 := 1) (j := 1) (dK D_FP_digest_1 23 rfl) rfl rfl ?_
    refine vg_getO (pc := 130) (ci := 8) (f := 3) (dK D_FP_digest_1 24 rfl) q_248 hc1 (ltK rfl) (ltK rfl) rfl ?_
    refine vg_getA (pc := 133) (ci := 2) (f := 1) (dK D_FP_digest_1 25 rfl) q_218 (hw_8_3 hc1) (ltK rfl) (ltK rfl) rfl ?_
    refine g_iloadn (pc := 136) (i0 := 3) (j := 3) (dK D_FP_digest_1 26 rfl) rfl rfl ?_
    refine gdE h (fun hi16 h => ?_)
    refine vg_iaload (pc := 137) (j := a3.toNat) (dK D_FP_digest_1 27 rfl) (hw_2_1 (hw_8_3 hc1)) rfl hi16 rfl ?_
    refine vg_iadd (pc := 138) (dK D_FP_digest_1 28 rfl) ?_
    refine nmE h (fun v17 e_v17 h => ?_)
    refine gtop e_v17 ?_
    refine g_istoren (pc := 139) (i0 := 2) (ls2 := [(2, V v17), (0, .ref c0), (1, .ref c1), (3, V a3)]) (dK D_FP_digest_1 29 rfl) rfl (ltK rfl) rfl ?_
    refine nmE h (fun v18 e_v18 h => ?_)
    refine vg_iinc (pc := 140) (j := 3) (a := a3) (z := 1) (ls2 := [(3, V v18), (2, V v17), (0, .ref c0), (1, .ref c1)]) (dK D_FP_digest_1 30 rfl) rfl e_v18 (ltK rfl) rfl ?_
    refine g_goto (pc := 143) (tgt := 114) (dK D_FP_digest_1 31 rfl) rfl ?_
    refine gL_weak (ls' := [(0, .ref c0), (1, .ref c1), (2, V v17), (3, V v18)]) (sbc 2 rfl (sbc 3 rfl (sbc 1 rfl (sbc 0 rfl sbn)))) ?_
    replace h := ih _ h
    exact h (Vn_in e_v17) (Vn_in e_v18)
def fn_FP_digest (c0 : Nat) (S : St) : Option (Int) := bnO (lo_FP_digest_12 c0 (tgt (tgt c0 3) 0) S FU (1, 0)) fun p5 => bnO (lo_FP_digest_46 c0 (tgt (tgt c0 3) 0) S FU (p5, 0)) fun p10 => bnO (lo_FP_digest_80 c0 (tgt (tgt c0 3) 0) S FU (p10, 0)) fun p15 => bnO (lo_FP_digest_114 c0 (tgt (tgt c0 3) 0) S FU (p15, 0)) fun p20 => some p20
theorem tf_FP_digest {E : EV} {X : XT} {c0 : Nat} (hc0 : HC X 10 c0) {S : St} {q : Int} (h : fn_FP_digest c0 S = some q) : Ev E M_FP_digest [.ref c0] (WX X S) 0 0 (KI X q S) := by
  refine Ev.of pn_FP rfl (leK rfl) ?_
  show Go E M_FP_digest 0 0 0 [(0, .ref c0)] [] (WX X S) 0 0 (KI X q S)
  unfold fn_FP_digest at h
  refine g_aloadn (pc := 0) (i0 := 0) (j := 0) (dK D_FP_digest_0 0 rfl) rfl rfl ?_
  refine vg_getO (pc := 1) (ci := 10) (f := 3) (dK D_FP_digest_0 1 rfl) q_436 hc0 (ltK rfl) (ltK rfl) rfl ?_
  refine vg_getO (pc := 4) (ci := 4) (f := 0) (dK D_FP_digest_0 2 rfl) q_303 (hw_10_3 hc0) (ltK rfl) (ltK rfl) rfl ?_
  refine g_astoren (pc := 7) (i0 := 1) (ls2 := [(1, .ref (tgt (tgt c0 3) 0)), (0, .ref c0)]) (dK D_FP_digest_0 3 rfl) rfl (ltK rfl) rfl ?_
  refine vg_iconst (pc := 8) (dK D_FP_digest_0 4 rfl) ?_
  refine g_istoren (pc := 9) (i0 := 2) (ls2 := [(2, V 1), (1, .ref (tgt (tgt c0 3) 0)), (0, .ref c0)]) (dK D_FP_digest_0 5 rfl) rfl (ltK rfl) rfl ?_
  refine vg_iconst (pc := 10) (dK D_FP_digest_0 6 rfl) ?_
  refine g_istoren (pc := 11) (i0 := 3) (ls2 := [(3, V 0), (2, V 1), (1, .ref (tgt (tgt c0 3) 0)), (0, .ref c0)]) (dK D_FP_digest_0 7 rfl) rfl (ltK rfl) rfl ?_
  refine bnE h (fun p5 e_p5 h => ?_)
  refine gL_weak (ls' := [(0, .ref c0), (1, .ref (tgt (tgt c0 3) 0)), (2, V 1), (3, V 0)]) (sbc 3 rfl (sbc 2 rfl (sbc 1 rfl (sbc 0 rfl sbn)))) ?_
  refine tl_FP_digest_12 hc0 (hw_4_0 (hw_10_3 hc0)) (fun hx2_p5 => ?_) FU (1, 0) e_p5 (inRk rfl) (inRk rfl)
  refine vg_iconst (pc := 44) (dK D_FP_digest_0 25 rfl) ?_
  refine g_istoren (pc := 45) (i0 := 3) (ls2 := [(3, V 0), (0, .ref c0), (1, .ref (tgt (tgt c0 3) 0)), (2, V p5)]) (dK D_FP_digest_0 26 rfl) rfl (ltK rfl) rfl ?_
  refine bnE h (fun p10 e_p10 h => ?_)
  refine gL_weak (ls' := [(0, .ref c0), (1, .ref (tgt (tgt c0 3) 0)), (2, V p5), (3, V 0)]) (sbc 1 rfl (sbc 2 rfl (sbc 3 rfl (sbc 0 rfl sbn)))) ?_
  refine tl_FP_digest_46 hc0 (hw_4_0 (hw_10_3 hc0)) (fun hx2_p10 => ?_) FU (p5, 0) e_p10 hx2_p5 (inRk rfl)
  refine vg_iconst (pc := 78) (dK D_FP_digest_0 44 rfl) ?_
  refine g_istoren (pc := 79) (i0 := 3) (ls2 := [(3, V 0), (0, .ref c0), (1, .ref (tgt (tgt c0 3) 0)), (2, V p10)]) (dK D_FP_digest_0 45 rfl) rfl (ltK rfl) rfl ?_
  refine bnE h (fun p15 e_p15 h => ?_)
  refine gL_weak (ls' := [(0, .ref c0), (1, .ref (tgt (tgt c0 3) 0)), (2, V p10), (3, V 0)]) (sbc 1 rfl (sbc 2 rfl (sbc 3 rfl (sbc 0 rfl sbn)))) ?_
  refine tl_FP_digest_80 hc0 (hw_4_0 (hw_10_3 hc0)) (fun hx2_p15 => ?_) FU (p10, 0) e_p15 hx2_p10 (inRk rfl)
  refine vg_iconst (pc := 112) (dK D_FP_digest_1 13 rfl) ?_
  refine g_istoren (pc := 113) (i0 := 3) (ls2 := [(3, V 0), (0, .ref c0), (1, .ref (tgt (tgt c0 3) 0)), (2, V p15)]) (dK D_FP_digest_1 14 rfl) rfl (ltK rfl) rfl ?_
  refine bnE h (fun p20 e_p20 h => ?_)
  refine gL_weak (ls' := [(0, .ref c0), (1, .ref (tgt (tgt c0 3) 0)), (2, V p15), (3, V 0)]) (sbc 1 rfl (sbc 2 rfl (sbc 3 rfl (sbc 0 rfl sbn)))) ?_
  refine tl_FP_digest_114 hc0 (hw_4_0 (hw_10_3 hc0)) (fun hx2_p20 => ?_) FU (p15, 0) e_p20 hx2_p15 (inRk rfl)
  refine g_iloadn (pc := 146) (i0 := 2) (j := 0) (dK D_FP_digest_1 32 rfl) rfl rfl ?_
  exact vg_iretI (pc := 147) (r := p20) (dK D_FP_digest_1 33 rfl) rfl (leK rfl) (leK rfl) (fun _ => rfl) (by obtain rfl := Option.some.inj h; exact ⟨rfl, hx2_p20, rfl⟩)
def lb_FP_revenue_15 (c1 : Nat) (S : St) (go : Int × Int → Option (Int)) (a2 : Int) (a3 : Int) : Option (Int) := if (g S c1 7) ≤ a3 then (some a2) else (if 0 ≤ a3 ∧ a3 < 40 then (if (g S (tgt c1 6) a3.toNat) = 0 then (nm (wr (a3 + 1)) fun v2 => go (a2, v2)) else (nm (wr (a2 + (g S (tgt c1 4) a3.toNat))) fun v3 => nm (wr (a3 + 1)) fun v4 => go (v3, v4))) else none)
def lo_FP_revenue_15 (c1 : Nat) (S : St) : Nat → Int × Int → Option (Int) := lp fun go p => lb_FP_revenue_15 c1 S go p.1 p.2
theorem tl_FP_revenue_15 {E : EV} {X : XT} {c1 : Nat} (hc1 : HC X 0 c1) {S : St} {K : RK → PS → Prop} {q : Int} (hx : inR q → Go E M_FP_revenue 0 0 47 [(2, V q)] [] (WX X S) 0 0 K) : ∀ n a, lo_FP_revenue_15 c1 S n a = some q → inR a.1 → inR a.2 → Go E M_FP_revenue 0 0 15 [(1, .ref c1), (2, V a.1), (3, V a.2)] [] (WX X S) 0 0 K := by
  refine lp_ind (P := fun a : Int × Int => inR a.1 → inR a.2 → Go E M_FP_revenue 0 0 15 [(1, .ref c1), (2, V a.1), (3, V a.2)] [] (WX X S) 0 0 K) (fun go ih a h => ?_)
  obtain ⟨a2, a3⟩ := a
  intro ha2 ha3
  show Go E M_FP_revenue 0 0 15 [(1, .ref c1), (2, V a2), (3, V a3)] [] (WX X S) 0 0 K
  replace h : lb_FP_revenue_15 c1 S go a2 a3 = some q := h
  unfold lb_FP_revenue_15 at h
  refine g_iloadn (pc := 15) (i0 := 3) (j := 2) (dK D_FP_revenue 9 rfl) rfl rfl ?_
  refine g_aloadn (pc := 16) (i0 := 1) (j := 0) (dK D_FP_revenue 10 rfl) rfl rfl ?_
  refine vg_getI (pc := 17) (ci := 0) (f := 7) (dK D_FP_revenue 11 rfl) q_120 hc1 (ltK rfl) (ltK rfl) rfl ?_
  refine vg_icmp_ge (pc := 20) (t := 47) (dK D_FP_revenue 12 rfl) rfl ha3 (g_in _ _ _) (fun hc6 => ?_) (fun hc6 => ?_)
  · replace h := ifP h hc6
    obtain rfl := Option.some.inj h
    refine gL_weak (ls' := [(2, V a2)]) (sbc 1 rfl sbn) ?_
    exact hx ha2
  · replace h := ifN h hc6
    refine g_aloadn (pc := 23) (i0 := 1) (j := 0) (dK D_FP_revenue 13 rfl) rfl rfl ?_
    refine vg_getA (pc := 24) (ci := 0) (f := 6) (dK D_FP_revenue 14 rfl) q_114 hc1 (ltK rfl) (ltK rfl) rfl ?_
    refine g_iloadn (pc := 27) (i0 := 3) (j := 2) (dK D_FP_revenue 15 rfl) rfl rfl ?_
    refine gdE h (fun hi1 h => ?_)
    refine vg_iaload (pc := 28) (j := a3.toNat) (dK D_FP_revenue 16 rfl) (hw_0_6 hc1) rfl hi1 rfl ?_
    refine vg_if_eq (pc := 29) (t := 41) (dK D_FP_revenue 17 rfl) rfl (g_in _ _ _) (fun hc5 => ?_) (fun hc5 => ?_)
    · replace h := ifP h hc5
      refine nmE h (fun v2 e_v2 h => ?_)
      refine vg_iinc (pc := 41) (j := 2) (a := a3) (z := 1) (ls2 := [(3, V v2), (1, .ref c1), (2, V a2)]) (dK D_FP_revenue 25 rfl) rfl e_v2 (ltK rfl) rfl ?_
      refine g_goto (pc := 44) (tgt := 15) (dK D_FP_revenue 26 rfl) rfl ?_
      refine gL_weak (ls' := [(1, .ref c1), (2, V a2), (3, V v2)]) (sbc 1 rfl (sbc 2 rfl (sbc 0 rfl sbn))) ?_
      replace h := ih _ h
      exact h ha2 (Vn_in e_v2)
    · replace h := ifN h hc5
      refine g_iloadn (pc := 32) (i0 := 2) (j := 1) (dK D_FP_revenue 18 rfl) rfl rfl ?_
      refine g_aloadn (pc := 33) (i0 := 1) (j := 0) (dK D_FP_revenue 19 rfl) rfl rfl ?_
      refine vg_getA (pc := 34) (ci := 0) (f := 4) (dK D_FP_revenue 20 rfl) q_105 hc1 (ltK rfl) (ltK rfl) rfl ?_
      refine g_iloadn (pc := 37) (i0 := 3) (j := 2) (dK D_FP_revenue 21 rfl) rfl rfl ?_
      refine vg_iaload (pc := 38) (j := a3.toNat) (dK D_FP_revenue 22 rfl) (hw_0_4 hc1) rfl hi1 rfl ?_
      refine vg_iadd (pc := 39) (dK D_FP_revenue 23 rfl) ?_
      refine nmE h (fun v3 e_v3 h => ?_)
      refine gtop e_v3 ?_
      refine g_istoren (pc := 40) (i0 := 2) (ls2 := [(2, V v3), (1, .ref c1), (3, V a3)]) (dK D_FP_revenue 24 rfl) rfl (ltK rfl) rfl ?_
      refine nmE h (fun v4 e_v4 h => ?_)
      refine vg_iinc (pc := 41) (j := 2) (a := a3) (z := 1) (ls2 := [(3, V v4), (2, V v3), (1, .ref c1)]) (dK D_FP_revenue 25 rfl) rfl e_v4 (ltK rfl) rfl ?_
      refine g_goto (pc := 44) (tgt := 15) (dK D_FP_revenue 26 rfl) rfl ?_
      refine gL_weak (ls' := [(1, .ref c1), (2, V v3), (3, V v4)]) (sbc 2 rfl (sbc 1 rfl (sbc 0 rfl sbn))) ?_
      replace h := ih _ h
      exact h (Vn_in e_v3) (Vn_in e_v4)
def fn_FP_revenue (c0 : Nat) (S : St) : Option (Int) := bnO (lo_FP_revenue_15 (tgt (tgt (tgt c0 3) 0) 0) S FU (0, 0)) fun p7 => some p7
theorem tf_FP_revenue {E : EV} {X : XT} {c0 : Nat} (hc0 : HC X 10 c0) {S : St} {q : Int} (h : fn_FP_revenue c0 S = some q) : Ev E M_FP_revenue [.ref c0] (WX X S) 0 0 (KI X q S) := by
  refine Ev.of pn_FP rfl (leK rfl) ?_
  show Go E M_FP_revenue 0 0 0 [(0, .ref c0)] [] (WX X S) 0 0 (KI X q S)
  unfold fn_FP_revenue at h
  refine g_aloadn (pc := 0) (i0 := 0) (j := 0) (dK D_FP_revenue 0 rfl) rfl rfl ?_
  refine vg_getO (pc := 1) (ci := 10) (f := 3) (dK D_FP_revenue 1 rfl) q_436 hc0 (ltK rfl) (ltK rfl) rfl ?_
  refine vg_getO (pc := 4) (ci := 4) (f := 0) (dK D_FP_revenue 2 rfl) q_303 (hw_10_3 hc0) (ltK rfl) (ltK rfl) rfl ?_
  refine vg_getO (pc := 7) (ci := 8) (f := 0) (dK D_FP_revenue 3 rfl) q_235 (hw_4_0 (hw_10_3 hc0)) (ltK rfl) (ltK rfl) rfl ?_
  refine g_astoren (pc := 10) (i0 := 1) (ls2 := [(1, .ref (tgt (tgt (tgt c0 3) 0) 0)), (0, .ref c0)]) (dK D_FP_revenue 4 rfl) rfl (ltK rfl) rfl ?_
  refine vg_iconst (pc := 11) (dK D_FP_revenue 5 rfl) ?_
  refine g_istoren (pc := 12) (i0 := 2) (ls2 := [(2, V 0), (1, .ref (tgt (tgt (tgt c0 3) 0) 0)), (0, .ref c0)]) (dK D_FP_revenue 6 rfl) rfl (ltK rfl) rfl ?_
  refine vg_iconst (pc := 13) (dK D_FP_revenue 7 rfl) ?_
  refine g_istoren (pc := 14) (i0 := 3) (ls2 := [(3, V 0), (2, V 0), (1, .ref (tgt (tgt (tgt c0 3) 0) 0)), (0, .ref c0)]) (dK D_FP_revenue 8 rfl) rfl (ltK rfl) rfl ?_
  refine bnE h (fun p7 e_p7 h => ?_)
  refine gL_weak (ls' := [(1, .ref (tgt (tgt (tgt c0 3) 0) 0)), (2, V 0), (3, V 0)]) (sbc 2 rfl (sbc 1 rfl (sbc 0 rfl sbn))) ?_
  refine tl_FP_revenue_15 (hw_8_0 (hw_4_0 (hw_10_3 hc0))) (fun hx2_p7 => ?_) FU (0, 0) e_p7 (inRk rfl) (inRk rfl)
  refine g_iloadn (pc := 47) (i0 := 2) (j := 0) (dK D_FP_revenue 27 rfl) rfl rfl ?_
  exact vg_iretI (pc := 48) (r := p7) (dK D_FP_revenue 28 rfl) rfl (leK rfl) (leK rfl) (fun _ => rfl) (by obtain rfl := Option.some.inj h; exact ⟨rfl, hx2_p7, rfl⟩)
def fn_FP_lost (c0 : Nat) (S : St) : Option (Int) := some (g S (tgt (tgt c0 3) 0) 7)
theorem tf_FP_lost {E : EV} {X : XT} {c0 : Nat} (hc0 : HC X 10 c0) {S : St} {q : Int} (h : fn_FP_lost c0 S = some q) : Ev E M_FP_lost [.ref c0] (WX X S) 0 0 (KI X q S) := by
  refine Ev.of pn_FP rfl (leK rfl) ?_
  show Go E M_FP_lost 0 0 0 [(0, .ref c0)] [] (WX X S) 0 0 (KI X q S)
  unfold fn_FP_lost at h
  refine g_aloadn (pc := 0) (i0 := 0) (j := 0) (dK D_FP_lost 0 rfl) rfl rfl ?_
  refine vg_getO (pc := 1) (ci := 10) (f := 3) (dK D_FP_lost 1 rfl) q_436 hc0 (ltK rfl) (ltK rfl) rfl ?_
  refine vg_getO (pc := 4) (ci := 4) (f := 0) (dK D_FP_lost 2 rfl) q_303 (hw_10_3 hc0) (ltK rfl) (ltK rfl) rfl ?_
  refine vg_getI (pc := 7) (ci := 8) (f := 7) (dK D_FP_lost 3 rfl) q_261 (hw_4_0 (hw_10_3 hc0)) (ltK rfl) (ltK rfl) rfl ?_
  exact vg_iretI (pc := 10) (r := (g S (tgt (tgt c0 3) 0) 7)) (dK D_FP_lost 4 rfl) rfl (leK rfl) (leK rfl) (fun _ => rfl) (by obtain rfl := Option.some.inj h; exact ⟨rfl, (g_in _ _ _), rfl⟩)
def fn_FP_undoCount (c0 : Nat) (S : St) : Option (Int) := some (g S (tgt c0 4) 2)
theorem tf_FP_undoCount {E : EV} {X : XT} {c0 : Nat} (hc0 : HC X 10 c0) {S : St} {q : Int} (h : fn_FP_undoCount c0 S = some q) : Ev E M_FP_undoCount [.ref c0] (WX X S) 0 0 (KI X q S) := by
  refine Ev.of pn_FP rfl (leK rfl) ?_
  show Go E M_FP_undoCount 0 0 0 [(0, .ref c0)] [] (WX X S) 0 0 (KI X q S)
  unfold fn_FP_undoCount at h
  refine g_aloadn (pc := 0) (i0 := 0) (j := 0) (dK D_FP_undoCount 0 rfl) rfl rfl ?_
  refine vg_getO (pc := 1) (ci := 10) (f := 4) (dK D_FP_undoCount 1 rfl) q_437 hc0 (ltK rfl) (ltK rfl) rfl ?_
  refine vg_getI (pc := 4) (ci := 3) (f := 2) (dK D_FP_undoCount 2 rfl) q_423 (hw_10_4 hc0) (ltK rfl) (ltK rfl) rfl ?_
  exact vg_iretI (pc := 7) (r := (g S (tgt c0 4) 2)) (dK D_FP_undoCount 3 rfl) rfl (leK rfl) (leK rfl) (fun _ => rfl) (by obtain rfl := Option.some.inj h; exact ⟨rfl, (g_in _ _ _), rfl⟩)
def fn_FP_needPage (c0 : Nat) (a1 : Int) (S : St) : Option (Nat) := bnO (fn_Plan_hasPage (tgt c0 3) a1 S) fun p1 => if p1 = true then (some 0) else (some 1)
theorem tf_FP_needPage {E : EV} {X : XT} (hfl : X.2.2.2 = false) {c0 : Nat} (hc0 : HC X 10 c0) {a1 : Int} (ha1 : inR a1) {S : St} {q : Nat} (h : fn_FP_needPage c0 a1 S = some q) : Ev E M_FP_needPage [.ref c0, V a1] (WX X S) 1 6 (KT X q S (KU X S)) := by
  refine Ev.of pn_FP rfl (leK rfl) ?_
  show Go E M_FP_needPage 1 6 0 [(0, .ref c0), (1, V a1)] [] (WX X S) 0 0 (KT X q S (KU X S))
  unfold fn_FP_needPage at h
  refine g_aloadn (pc := 0) (i0 := 0) (j := 0) (dK D_FP_needPage 0 rfl) rfl rfl ?_
  refine vg_getO (pc := 1) (ci := 10) (f := 3) (dK D_FP_needPage 1 rfl) q_436 hc0 (ltK rfl) (ltK rfl) rfl ?_
  refine g_iloadn (pc := 4) (i0 := 1) (j := 1) (dK D_FP_needPage 2 rfl) rfl rfl ?_
  refine bnE h (fun p1 e_p1 h => ?_)
  refine vg_cV (pc := 5) (As := [V a1]) (rest := []) (mc' := 0) (ms' := 0) (dK D_FP_needPage 3 rfl) K_FP_372 (fitK rfl) (ltK rfl) (hw_10_3 hc0) rfl (leK rfl) (leK rfl) (leK rfl) (tf_Plan_hasPage (hw_10_3 hc0) ha1 e_p1) (kcB ?_)
  refine vg_ifB_ne (pc := 8) (b := p1) (t := 22) (dK D_FP_needPage 4 rfl) rfl (fun hc2 => ?_) (fun hc2 => ?_)
  · replace h := ifP h hc2
    exact g_return (pc := 22) (dK D_FP_needPage 10 rfl) rfl (leK rfl) (leK rfl) (xf hfl) (by obtain rfl := Option.some.inj h; exact KT_ok ⟨rfl, rfl⟩)
  · replace h := ifN h hc2
    exact vg_throwW hfl (pc := 11) TH_FP_363_375 (dK D_FP_needPage 5 rfl) (dK D_FP_needPage 6 rfl) (dK D_FP_needPage 7 rfl) (dK D_FP_needPage 8 rfl) (dK D_FP_needPage 9 rfl) rfl (leK rfl) (leK rfl) (leK rfl) (leK rfl) (leK rfl) (by obtain rfl := Option.some.inj h; exact KT_thr (e := 1) (by decide))
def lb_FP_standing_5 (nc0 : Nat) (c0 : Nat) (a1 : Int) (a2 : Int) (S : St) (go : Int × Int → Option (Int)) (a3 : Int) (a4 : Int) : Option (Int) := if a1 ≤ a4 then (some a3) else (if (nc0 : Int) ≤ a4 then (some a3) else (if 0 ≤ a4 ∧ a4 < (nc0 : Int) then (if (g S c0 a4.toNat) = a2 then (nm (wr (a3 + 1)) fun v3 => nm (wr (a4 + 1)) fun v4 => go (v3, v4)) else (nm (wr (a4 + 1)) fun v2 => go (a3, v2))) else none))
def lo_FP_standing_5 (nc0 : Nat) (c0 : Nat) (a1 : Int) (a2 : Int) (S : St) : Nat → Int × Int → Option (Int) := lp fun go p => lb_FP_standing_5 nc0 c0 a1 a2 S go p.1 p.2
theorem tl_FP_standing_5 {E : EV} {X : XT} {nc0 c0 : Nat} (hnc0 : Nat.ble nc0 99999 = true) (hc0 : HA X 0 nc0 c0) {a1 : Int} (ha1 : inR a1) {a2 : Int} (ha2 : inR a2) {S : St} {K : RK → PS → Prop} {q : Int} (hx : inR q → Go E M_FP_standing 0 0 35 [(3, V q)] [] (WX X S) 0 0 K) : ∀ n a, lo_FP_standing_5 nc0 c0 a1 a2 S n a = some q → inR a.1 → inR a.2 → Go E M_FP_standing 0 0 5 [(0, .ref c0), (1, V a1), (2, V a2), (3, V a.1), (4, V a.2)] [] (WX X S) 0 0 K := by
  refine lp_ind (P := fun a : Int × Int => inR a.1 → inR a.2 → Go E M_FP_standing 0 0 5 [(0, .ref c0), (1, V a1), (2, V a2), (3, V a.1), (4, V a.2)] [] (WX X S) 0 0 K) (fun go ih a h => ?_)
  obtain ⟨a3, a4⟩ := a
  intro ha3 ha4
  show Go E M_FP_standing 0 0 5 [(0, .ref c0), (1, V a1), (2, V a2), (3, V a3), (4, V a4)] [] (WX X S) 0 0 K
  replace h : lb_FP_standing_5 nc0 c0 a1 a2 S go a3 a4 = some q := h
  unfold lb_FP_standing_5 at h
  refine g_iload (pc := 5) (j := 4) (dK D_FP_standing 4 rfl) rfl ?_
  refine g_iloadn (pc := 7) (i0 := 1) (j := 1) (dK D_FP_standing 5 rfl) rfl rfl ?_
  refine vg_icmp_ge (pc := 8) (t := 35) (dK D_FP_standing 6 rfl) rfl ha4 ha1 (fun hc7 => ?_) (fun hc7 => ?_)
  · replace h := ifP h hc7
    obtain rfl := Option.some.inj h
    refine gL_weak (ls' := [(3, V a3)]) (sbc 3 rfl sbn) ?_
    exact hx ha3
  · replace h := ifN h hc7
    refine g_iload (pc := 11) (j := 4) (dK D_FP_standing 7 rfl) rfl ?_
    refine g_aloadn (pc := 13) (i0 := 0) (j := 0) (dK D_FP_standing 8 rfl) rfl rfl ?_
    refine vg_alen (pc := 14) (dK D_FP_standing 9 rfl) (ltK rfl) hc0 ?_
    refine vg_icmp_ge (pc := 15) (t := 35) (dK D_FP_standing 10 rfl) rfl ha4 (inR_nat hnc0) (fun hc6 => ?_) (fun hc6 => ?_)
    · replace h := ifP h hc6
      obtain rfl := Option.some.inj h
      refine gL_weak (ls' := [(3, V a3)]) (sbc 3 rfl sbn) ?_
      exact hx ha3
    · replace h := ifN h hc6
      refine g_aloadn (pc := 18) (i0 := 0) (j := 0) (dK D_FP_standing 11 rfl) rfl rfl ?_
      refine g_iload (pc := 19) (j := 4) (dK D_FP_standing 12 rfl) rfl ?_
      refine gdE h (fun hi1 h => ?_)
      refine vg_iaload (pc := 21) (j := a4.toNat) (dK D_FP_standing 13 rfl) hc0 hnc0 hi1 rfl ?_
      refine g_iloadn (pc := 22) (i0 := 2) (j := 2) (dK D_FP_standing 14 rfl) rfl rfl ?_
      refine vg_icmp_ne (pc := 23) (t := 29) (dK D_FP_standing 15 rfl) rfl (g_in _ _ _) ha2 (fun hc5 => ?_) (fun hc5 => ?_)
      · replace h := ifN h hc5
        refine nmE h (fun v2 e_v2 h => ?_)
        refine vg_iinc (pc := 29) (j := 4) (a := a4) (z := 1) (ls2 := [(4, V v2), (0, .ref c0), (1, V a1), (2, V a2), (3, V a3)]) (dK D_FP_standing 17 rfl) rfl e_v2 (ltK rfl) rfl ?_
        refine g_goto (pc := 32) (tgt := 5) (dK D_FP_standing 18 rfl) rfl ?_
        refine gL_weak (ls' := [(0, .ref c0), (1, V a1), (2, V a2), (3, V a3), (4, V v2)]) (sbc 1 rfl (sbc 2 rfl (sbc 3 rfl (sbc 4 rfl (sbc 0 rfl sbn))))) ?_
        replace h := ih _ h
        exact h ha3 (Vn_in e_v2)
      · replace h := ifP h hc5
        refine nmE h (fun v3 e_v3 h => ?_)
        refine vg_iinc (pc := 26) (j := 3) (a := a3) (z := 1) (ls2 := [(3, V v3), (0, .ref c0), (1, V a1), (2, V a2), (4, V a4)]) (dK D_FP_standing 16 rfl) rfl e_v3 (ltK rfl) rfl ?_
        refine nmE h (fun v4 e_v4 h => ?_)
        refine vg_iinc (pc := 29) (j := 4) (a := a4) (z := 1) (ls2 := [(4, V v4), (3, V v3), (0, .ref c0), (1, V a1), (2, V a2)]) (dK D_FP_standing 17 rfl) rfl e_v4 (ltK rfl) rfl ?_
        refine g_goto (pc := 32) (tgt := 5) (dK D_FP_standing 18 rfl) rfl ?_
        refine gL_weak (ls' := [(0, .ref c0), (1, V a1), (2, V a2), (3, V v3), (4, V v4)]) (sbc 2 rfl (sbc 3 rfl (sbc 4 rfl (sbc 1 rfl (sbc 0 rfl sbn))))) ?_
        replace h := ih _ h
        exact h (Vn_in e_v3) (Vn_in e_v4)
def fn_FP_standing (n0 : Nat) (c0 : Nat) (a1 : Int) (a2 : Int) (S : St) : Option (Int) := bnO (lo_FP_standing_5 n0 c0 a1 a2 S FU (0, 0)) fun p8 => some p8
theorem tf_FP_standing {E : EV} {X : XT} {n0 c0 : Nat} (hn0 : Nat.ble n0 99999 = true) (hc0 : HA X 0 n0 c0) {a1 : Int} (ha1 : inR a1) {a2 : Int} (ha2 : inR a2) {S : St} {q : Int} (h : fn_FP_standing n0 c0 a1 a2 S = some q) : Ev E M_FP_standing [.ref c0, V a1, V a2] (WX X S) 0 0 (KI X q S) := by
  refine Ev.of pn_FP rfl (leK rfl) ?_
  show Go E M_FP_standing 0 0 0 [(0, .ref c0), (1, V a1), (2, V a2)] [] (WX X S) 0 0 (KI X q S)
  unfold fn_FP_standing at h
  refine vg_iconst (pc := 0) (dK D_FP_standing 0 rfl) ?_
  refine g_istoren (pc := 1) (i0 := 3) (ls2 := [(3, V 0), (0, .ref c0), (1, V a1), (2, V a2)]) (dK D_FP_standing 1 rfl) rfl (ltK rfl) rfl ?_
  refine vg_iconst (pc := 2) (dK D_FP_standing 2 rfl) ?_
  refine g_istore (pc := 3) (ls2 := [(4, V 0), (3, V 0), (0, .ref c0), (1, V a1), (2, V a2)]) (dK D_FP_standing 3 rfl) (ltK rfl) rfl ?_
  refine bnE h (fun p8 e_p8 h => ?_)
  refine gL_weak (ls' := [(0, .ref c0), (1, V a1), (2, V a2), (3, V 0), (4, V 0)]) (sbc 2 rfl (sbc 3 rfl (sbc 4 rfl (sbc 1 rfl (sbc 0 rfl sbn))))) ?_
  refine tl_FP_standing_5 hn0 hc0 ha1 ha2 (fun hx3_p8 => ?_) FU (0, 0) e_p8 (inRk rfl) (inRk rfl)
  refine g_iloadn (pc := 35) (i0 := 3) (j := 0) (dK D_FP_standing 19 rfl) rfl rfl ?_
  exact vg_iretI (pc := 36) (r := p8) (dK D_FP_standing 20 rfl) rfl (leK rfl) (leK rfl) (fun _ => rfl) (by obtain rfl := Option.some.inj h; exact ⟨rfl, hx3_p8, rfl⟩)
def fn_FP_page (c0 : Nat) (a1 : Int) (a2 : Int) (S : St) : Option (Nat × Int) := bnO (fn_FP_needPage c0 a1 S) fun p1 => if p1 = 0 then (if a2 = 0 then (some (0, (wr (a1.tdiv 2)))) else if a2 = 1 then (if 0 ≤ a1 ∧ a1 < 65 then (some (0, (g S (tgt (tgt c0 3) 4) a1.toNat))) else none) else if a2 = 2 then (if 0 ≤ a1 ∧ a1 < 65 then (some (0, (g S (tgt (tgt c0 3) 3) a1.toNat))) else none) else if a2 = 3 then (if 0 ≤ a1 ∧ a1 < 65 then (some (0, (g S (tgt (tgt c0 3) 5) a1.toNat))) else none) else if a2 = 4 then (bnO (fn_FP_standing 40 (tgt (tgt (tgt (tgt c0 3) 0) 0) 6) (g S (tgt (tgt (tgt c0 3) 0) 0) 7) a1 S) fun p10 => some (0, p10)) else if a2 = 5 then (if 0 ≤ a1 ∧ a1 < 65 then (some (0, (g S (tgt (tgt c0 3) 6) a1.toNat))) else none) else if a2 = 6 then (bnO (fn_FP_standing 8 (tgt (tgt (tgt (tgt c0 3) 0) 2) 1) (g S (tgt (tgt (tgt c0 3) 0) 2) 2) a1 S) fun p14 => some (0, p14)) else (some (0, (-1)))) else (some (p1, 0))
theorem tf_FP_page {E : EV} {X : XT} (hfl : X.2.2.2 = false) {c0 : Nat} (hc0 : HC X 10 c0) {a1 : Int} (ha1 : inR a1) {a2 : Int} (ha2 : inR a2) {S : St} {q : Nat × Int} (h : fn_FP_page c0 a1 a2 S = some q) : Ev E M_FP_page [.ref c0, V a1, V a2] (WX X S) 1 6 (KT X q.1 S (KI X q.2 S)) := by
  refine Ev.of pn_FP rfl (leK rfl) ?_
  show Go E M_FP_page 1 6 0 [(0, .ref c0), (1, V a1), (2, V a2)] [] (WX X S) 0 0 (KT X q.1 S (KI X q.2 S))
  unfold fn_FP_page at h
  refine g_aloadn (pc := 0) (i0 := 0) (j := 0) (dK D_FP_page_0 0 rfl) rfl rfl ?_
  refine g_iloadn (pc := 1) (i0 := 1) (j := 1) (dK D_FP_page_0 1 rfl) rfl rfl ?_
  refine bnE h (fun p1 e_p1 h => ?_)
  refine vg_cV (pc := 2) (As := [V a1]) (rest := []) (mc' := 1) (ms' := 6) (dK D_FP_page_0 2 rfl) K_FP_204 (fitK rfl) (ltK rfl) hc0 rfl (leK rfl) (leK rfl) (leK rfl) (tf_FP_needPage hfl hc0 ha1 e_p1) (kcT hfl (fun he15 => kcU ?_) (fun he15 => ⟨rfl, ?_⟩))
  · replace h := ifP h he15
    refine g_iloadn (pc := 5) (i0 := 2) (j := 2) (dK D_FP_page_0 3 rfl) rfl rfl ?_
    by_cases hk2 : a2 = 0
    · have h := ifP h hk2
      refine vg_tabK (pc := 6) (kk := 0) (t := 48) (dK D_FP_page_0 4 rfl) hk2 rfl rfl rfl rfl ?_
      refine g_iloadn (pc := 48) (i0 := 1) (j := 1) (dK D_FP_page_0 5 rfl) rfl rfl ?_
      refine vg_iconst (pc := 49) (dK D_FP_page_0 6 rfl) ?_
      refine vg_idiv (pc := 50) (dK D_FP_page_0 7 rfl) ha1 (inRk rfl) (by decide) ?_
      refine gtop (x := (wr (a1.tdiv 2))) rfl ?_
      exact vg_iretI (pc := 51) (r := (wr (a1.tdiv 2))) (dK D_FP_page_0 8 rfl) rfl (leK rfl) (leK rfl) (xf hfl) (by obtain rfl := Option.some.inj h; exact KT_ok ⟨rfl, (wr_in _), rfl⟩)
    replace h := ifN h hk2
    by_cases hk3 : a2 = 1
    · have h := ifP h hk3
      refine vg_tabK (pc := 6) (kk := 1) (t := 52) (dK D_FP_page_0 4 rfl) hk3 rfl rfl rfl rfl ?_
      refine g_aloadn (pc := 52) (i0 := 0) (j := 0) (dK D_FP_page_0 9 rfl) rfl rfl ?_
      refine vg_getO (pc := 53) (ci := 10) (f := 3) (dK D_FP_page_0 10 rfl) q_436 hc0 (ltK rfl) (ltK rfl) rfl ?_
      refine vg_getA (pc := 56) (ci := 4) (f := 4) (dK D_FP_page_0 11 rfl) q_317 (hw_10_3 hc0) (ltK rfl) (ltK rfl) rfl ?_
      refine g_iloadn (pc := 59) (i0 := 1) (j := 1) (dK D_FP_page_0 12 rfl) rfl rfl ?_
      refine gdE h (fun hi4 h => ?_)
      refine vg_iaload (pc := 60) (j := a1.toNat) (dK D_FP_page_0 13 rfl) (hw_4_4 (hw_10_3 hc0)) rfl hi4 rfl ?_
      exact vg_iretI (pc := 61) (r := (g S (tgt (tgt c0 3) 4) a1.toNat)) (dK D_FP_page_0 14 rfl) rfl (leK rfl) (leK rfl) (xf hfl) (by obtain rfl := Option.some.inj h; exact KT_ok ⟨rfl, (g_in _ _ _), rfl⟩)
    replace h := ifN h hk3
    by_cases hk5 : a2 = 2
    · have h := ifP h hk5
      refine vg_tabK (pc := 6) (kk := 2) (t := 62) (dK D_FP_page_0 4 rfl) hk5 rfl rfl rfl rfl ?_
      refine g_aloadn (pc := 62) (i0 := 0) (j := 0) (dK D_FP_page_0 15 rfl) rfl rfl ?_
      refine vg_getO (pc := 63) (ci := 10) (f := 3) (dK D_FP_page_0 16 rfl) q_436 hc0 (ltK rfl) (ltK rfl) rfl ?_
      refine vg_getA (pc := 66) (ci := 4) (f := 3) (dK D_FP_page_0 17 rfl) q_314 (hw_10_3 hc0) (ltK rfl) (ltK rfl) rfl ?_
      refine g_iloadn (pc := 69) (i0 := 1) (j := 1) (dK D_FP_page_0 18 rfl) rfl rfl ?_
      refine gdE h (fun hi6 h => ?_)
      refine vg_iaload (pc := 70) (j := a1.toNat) (dK D_FP_page_0 19 rfl) (hw_4_3 (hw_10_3 hc0)) rfl hi6 rfl ?_
      exact vg_iretI (pc := 71) (r := (g S (tgt (tgt c0 3) 3) a1.toNat)) (dK D_FP_page_0 20 rfl) rfl (leK rfl) (leK rfl) (xf hfl) (by obtain rfl := Option.some.inj h; exact KT_ok ⟨rfl, (g_in _ _ _), rfl⟩)
    replace h := ifN h hk5
    by_cases hk7 : a2 = 3
    · have h := ifP h hk7
      refine vg_tabK (pc := 6) (kk := 3) (t := 72) (dK D_FP_page_0 4 rfl) hk7 rfl rfl rfl rfl ?_
      refine g_aloadn (pc := 72) (i0 := 0) (j := 0) (dK D_FP_page_0 21 rfl) rfl rfl ?_
      refine vg_getO (pc := 73) (ci := 10) (f := 3) (dK D_FP_page_0 22 rfl) q_436 hc0 (ltK rfl) (ltK rfl) rfl ?_
      refine vg_getA (pc := 76) (ci := 4) (f := 5) (dK D_FP_page_0 23 rfl) q_319 (hw_10_3 hc0) (ltK rfl) (ltK rfl) rfl ?_
      refine g_iloadn (pc := 79) (i0 := 1) (j := 1) (dK D_FP_page_0 24 rfl) rfl rfl ?_
      refine gdE h (fun hi8 h => ?_)
      refine vg_iaload (pc := 80) (j := a1.toNat) (dK D_FP_page_0 25 rfl) (hw_4_5 (hw_10_3 hc0)) rfl hi8 rfl ?_
      exact vg_iretI (pc := 81) (r := (g S (tgt (tgt c0 3) 5) a1.toNat)) (dK D_FP_page_0 26 rfl) rfl (leK rfl) (leK rfl) (xf hfl) (by obtain rfl := Option.some.inj h; exact KT_ok ⟨rfl, (g_in _ _ _), rfl⟩)
    replace h := ifN h hk7
    by_cases hk9 : a2 = 4
    · have h := ifP h hk9
      refine vg_tabK (pc := 6) (kk := 4) (t := 82) (dK D_FP_page_0 4 rfl) hk9 rfl rfl rfl rfl ?_
      refine g_aloadn (pc := 82) (i0 := 0) (j := 0) (dK D_FP_page_0 27 rfl) rfl rfl ?_
      refine vg_getO (pc := 83) (ci := 10) (f := 3) (dK D_FP_page_0 28 rfl) q_436 hc0 (ltK rfl) (ltK rfl) rfl ?_
      refine vg_getO (pc := 86) (ci := 4) (f := 0) (dK D_FP_page_0 29 rfl) q_303 (hw_10_3 hc0) (ltK rfl) (ltK rfl) rfl ?_
      refine vg_getO (pc := 89) (ci := 8) (f := 0) (dK D_FP_page_0 30 rfl) q_235 (hw_4_0 (hw_10_3 hc0)) (ltK rfl) (ltK rfl) rfl ?_
      refine vg_getA (pc := 92) (ci := 0) (f := 6) (dK D_FP_page_0 31 rfl) q_114 (hw_8_0 (hw_4_0 (hw_10_3 hc0))) (ltK rfl) (ltK rfl) rfl ?_
      refine g_aloadn (pc := 95) (i0 := 0) (j := 0) (dK D_FP_page_0 32 rfl) rfl rfl ?_
      refine vg_getO (pc := 96) (ci := 10) (f := 3) (dK D_FP_page_0 33 rfl) q_436 hc0 (ltK rfl) (ltK rfl) rfl ?_
      refine vg_getO (pc := 99) (ci := 4) (f := 0) (dK D_FP_page_0 34 rfl) q_303 (hw_10_3 hc0) (ltK rfl) (ltK rfl) rfl ?_
      refine vg_getO (pc := 102) (ci := 8) (f := 0) (dK D_FP_page_0 35 rfl) q_235 (hw_4_0 (hw_10_3 hc0)) (ltK rfl) (ltK rfl) rfl ?_
      refine vg_getI (pc := 105) (ci := 0) (f := 7) (dK D_FP_page_0 36 rfl) q_120 (hw_8_0 (hw_4_0 (hw_10_3 hc0))) (ltK rfl) (ltK rfl) rfl ?_
      refine g_iloadn (pc := 108) (i0 := 1) (j := 1) (dK D_FP_page_0 37 rfl) rfl rfl ?_
      refine bnE h (fun p10 e_p10 h => ?_)
      refine vg_cS (pc := 109) (As := [.ref (tgt (tgt (tgt (tgt c0 3) 0) 0) 6), V (g S (tgt (tgt (tgt c0 3) 0) 0) 7), V a1]) (rest := []) (mc' := 0) (ms' := 0) (dK D_FP_page_0 38 rfl) K_FP_216 (fitK rfl) rfl (leK rfl) (leK rfl) (leK rfl) (tf_FP_standing rfl (hw_0_6 (hw_8_0 (hw_4_0 (hw_10_3 hc0)))) (g_in _ _ _) ha1 e_p10) (kcI (fun h_p10 => ?_))
      exact vg_iretI (pc := 112) (r := p10) (dK D_FP_page_0 39 rfl) rfl (leK rfl) (leK rfl) (xf hfl) (by obtain rfl := Option.some.inj h; exact KT_ok ⟨rfl, h_p10, rfl⟩)
    replace h := ifN h hk9
    by_cases hk11 : a2 = 5
    · have h := ifP h hk11
      refine vg_tabK (pc := 6) (kk := 5) (t := 113) (dK D_FP_page_0 4 rfl) hk11 rfl rfl rfl rfl ?_
      refine g_aloadn (pc := 113) (i0 := 0) (j := 0) (dK D_FP_page_0 40 rfl) rfl rfl ?_
      refine vg_getO (pc := 114) (ci := 10) (f := 3) (dK D_FP_page_0 41 rfl) q_436 hc0 (ltK rfl) (ltK rfl) rfl ?_
      refine vg_getA (pc := 117) (ci := 4) (f := 6) (dK D_FP_page_0 42 rfl) q_322 (hw_10_3 hc0) (ltK rfl) (ltK rfl) rfl ?_
      refine g_iloadn (pc := 120) (i0 := 1) (j := 1) (dK D_FP_page_0 43 rfl) rfl rfl ?_
      refine gdE h (fun hi12 h => ?_)
      refine vg_iaload (pc := 121) (j := a1.toNat) (dK D_FP_page_0 44 rfl) (hw_4_6 (hw_10_3 hc0)) rfl hi12 rfl ?_
      exact vg_iretI (pc := 122) (r := (g S (tgt (tgt c0 3) 6) a1.toNat)) (dK D_FP_page_0 45 rfl) rfl (leK rfl) (leK rfl) (xf hfl) (by obtain rfl := Option.some.inj h; exact KT_ok ⟨rfl, (g_in _ _ _), rfl⟩)
    replace h := ifN h hk11
    by_cases hk13 : a2 = 6
    · have h := ifP h hk13
      refine vg_tabK (pc := 6) (kk := 6) (t := 123) (dK D_FP_page_0 4 rfl) hk13 rfl rfl rfl rfl ?_
      refine g_aloadn (pc := 123) (i0 := 0) (j := 0) (dK D_FP_page_0 46 rfl) rfl rfl ?_
      refine vg_getO (pc := 124) (ci := 10) (f := 3) (dK D_FP_page_0 47 rfl) q_436 hc0 (ltK rfl) (ltK rfl) rfl ?_
      refine vg_getO (pc := 127) (ci := 4) (f := 0) (dK D_FP_page_0 48 rfl) q_303 (hw_10_3 hc0) (ltK rfl) (ltK rfl) rfl ?_
      refine vg_getO (pc := 130) (ci := 8) (f := 2) (dK D_FP_page_0 49 rfl) q_243 (hw_4_0 (hw_10_3 hc0)) (ltK rfl) (ltK rfl) rfl ?_
      refine vg_getA (pc := 133) (ci := 7) (f := 1) (dK D_FP_page_1 0 rfl) q_193 (hw_8_2 (hw_4_0 (hw_10_3 hc0))) (ltK rfl) (ltK rfl) rfl ?_
      refine g_aloadn (pc := 136) (i0 := 0) (j := 0) (dK D_FP_page_1 1 rfl) rfl rfl ?_
      refine vg_getO (pc := 137) (ci := 10) (f := 3) (dK D_FP_page_1 2 rfl) q_436 hc0 (ltK rfl) (ltK rfl) rfl ?_
      refine vg_getO (pc := 140) (ci := 4) (f := 0) (dK D_FP_page_1 3 rfl) q_303 (hw_10_3 hc0) (ltK rfl) (ltK rfl) rfl ?_
      refine vg_getO (pc := 143) (ci := 8) (f := 2) (dK D_FP_page_1 4 rfl) q_243 (hw_4_0 (hw_10_3 hc0)) (ltK rfl) (ltK rfl) rfl ?_
      refine vg_getI (pc := 146) (ci := 7) (f := 2) (dK D_FP_page_1 5 rfl) q_196 (hw_8_2 (hw_4_0 (hw_10_3 hc0))) (ltK rfl) (ltK rfl) rfl ?_
      refine g_iloadn (pc := 149) (i0 := 1) (j := 1) (dK D_FP_page_1 6 rfl) rfl rfl ?_
      refine bnE h (fun p14 e_p14 h => ?_)
      refine vg_cS (pc := 150) (As := [.ref (tgt (tgt (tgt (tgt c0 3) 0) 2) 1), V (g S (tgt (tgt (tgt c0 3) 0) 2) 2), V a1]) (rest := []) (mc' := 0) (ms' := 0) (dK D_FP_page_1 7 rfl) K_FP_216 (fitK rfl) rfl (leK rfl) (leK rfl) (leK rfl) (tf_FP_standing rfl (hw_7_1 (hw_8_2 (hw_4_0 (hw_10_3 hc0)))) (g_in _ _ _) ha1 e_p14) (kcI (fun h_p14 => ?_))
      exact vg_iretI (pc := 153) (r := p14) (dK D_FP_page_1 8 rfl) rfl (leK rfl) (leK rfl) (xf hfl) (by obtain rfl := Option.some.inj h; exact KT_ok ⟨rfl, h_p14, rfl⟩)
    replace h := ifN h hk13
    refine vg_tabD (pc := 6) (t := 154) (lo := 0) (hi := 6) (dK D_FP_page_0 4 rfl) ha2 (by omega) rfl ?_
    refine vg_iconst (pc := 154) (dK D_FP_page_1 9 rfl) ?_
    exact vg_iretI (pc := 155) (r := (-1)) (dK D_FP_page_1 10 rfl) rfl (leK rfl) (leK rfl) (xf hfl) (by obtain rfl := Option.some.inj h; exact KT_ok ⟨rfl, (inRk rfl), rfl⟩)
  · replace h := ifN h he15
    obtain rfl := Option.some.inj h
    exact KT_thr he15
