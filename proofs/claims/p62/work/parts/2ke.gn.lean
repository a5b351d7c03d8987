def lb2_LP_late_10 (c0 : Nat) (a1 : Int) (c3 : Nat) (go : Int × LZ → Option ((Int × LZ) × Nat × Nat)) (a2 : Int) (S : St) (L : List PC) : Option ((Int × LZ) × Nat × Nat) := if isK L c3 14 = true then (bnO (gn_Itr_hasNext c3 S L) fun p6 => if p6 = true then (if isK L c3 14 = true then (bnO (gn_Itr_next c3 S L) fun p9 => adC p9.2.1 p9.2.2 (rfB p9.1.1 fun r11 => if isK p9.1.2.2 r11 11 = true then (bnO (gfI p9.1.2.2 r11 11 5) fun v13 => if v13 ≤ 0 then (nm (wr (a2 + 0)) fun v14 => go (v14, (p9.1.2.1, p9.1.2.2))) else (bnO (gfI p9.1.2.2 r11 11 5) fun v15 => if isK p9.1.2.2 c0 12 = true then (bnO (gn_LP_form c0 v15 p9.1.2.1 p9.1.2.2) fun p16 => if p16 = a1 then (bnO (gfI p9.1.2.2 r11 11 4) fun v19 => bnO (gfI p9.1.2.2 c0 12 2) fun v20 => if v19 ≤ v20 then (nm (wr (a2 + 0)) fun v21 => go (v21, (p9.1.2.1, p9.1.2.2))) else (nm (wr (a2 + 1)) fun v22 => go (v22, (p9.1.2.1, p9.1.2.2)))) else (nm (wr (a2 + 0)) fun v18 => go (v18, (p9.1.2.1, p9.1.2.2)))) else none)) else none)) else none) else (some ((a2, (S, L)), 0, 0))) else none
def lo2_LP_late_10 (c0 : Nat) (a1 : Int) (c3 : Nat) : Nat → Int × LZ → Option ((Int × LZ) × Nat × Nat) := lp fun go p => lb2_LP_late_10 c0 a1 c3 go p.1 p.2.1 p.2.2
theorem tl2_LP_late_10 {sc : SC} {c0 : Nat} {a1 : Int} (ha1 : inR a1) {c3 : Nat} {K : Option Value → List PC → Prop} {mc ms kt nt : Nat} (hkt : kt ≤ mc) (hnt : nt ≤ ms) : ∀ (N : Nat) (a : Int × LZ) (q : (Int × LZ) × Nat × Nat), lo2_LP_late_10 c0 a1 c3 N a = some q → ∀ k n, Bd k n kt nt q → inR a.1 → (inR q.1.1 → GX sc M_LP_late mc ms 74 [(0, .ref c0), (1, V a1), (2, V q.1.1)] [] (wz q.1.2) kt nt K) → GX sc M_LP_late mc ms 10 [(0, .ref c0), (1, V a1), (2, V a.1), (3, .ref c3)] [] (wz a.2) k n K := by
  refine lp_ind2 (P := fun (a : Int × LZ) (q : (Int × LZ) × Nat × Nat) => ∀ k n, Bd k n kt nt q → inR a.1 → (inR q.1.1 → GX sc M_LP_late mc ms 74 [(0, .ref c0), (1, V a1), (2, V q.1.1)] [] (wz q.1.2) kt nt K) → GX sc M_LP_late mc ms 10 [(0, .ref c0), (1, V a1), (2, V a.1), (3, .ref c3)] [] (wz a.2) k n K) (fun go ih a q h => ?_)
  obtain ⟨a2, ⟨S, L⟩⟩ := a
  intro k n hb ha2 hx
  show GX sc M_LP_late mc ms 10 [(0, .ref c0), (1, V a1), (2, V a2), (3, .ref c3)] [] (wz (S, L)) k n K
  replace h : lb2_LP_late_10 c0 a1 c3 go a2 S L = some q := h
  unfold lb2_LP_late_10 at h
  refine x_aloadn (pc := 10) (i0 := 3) (j := 3) (dK D_LP_late_0 6 rfl) rfl rfl ?_
  refine gdE h ?_
  clear h
  intro hk7 h
  refine bnE h ?_
  clear h
  intro p6 e_p6 h
  refine x_callF (pc := 11) (As := []) (rest := []) (mc' := 0) (ms' := 0) (dK D_LP_late_0 7 rfl) LE_Itr_hasNext (List.mem_of_getElem? (i := 0) rfl) q_839 q_843 q_845 rfl q_820 (fitK rfl) (isK_at (Z := (S, L)) (ci := 14) hk7) rfl (leK rfl) (Nat.le_trans (bdk hb) hkt) (Nat.le_trans (bdn hb) hnt) (tg_Itr_hasNext  e_p6) (kxB' ?_)
  refine wx_ifB_eq (pc := 16) (b := p6) (t := 74) (dK D_LP_late_0 8 rfl) rfl (fun hc8 => ?_) (fun hc8 => ?_)
  · replace h := ifP h hc8
    refine x_aloadn (pc := 19) (i0 := 3) (j := 3) (dK D_LP_late_0 9 rfl) rfl rfl ?_
    refine gdE h ?_
    clear h
    intro hk10 h
    refine bnE h ?_
    clear h
    intro p9 e_p9 h
    obtain ⟨yp9, h9, e9⟩ := adE2 h
    clear h
    subst e9
    have h := h9
    clear h9
    have hk1 := Nat.le_trans (bd1 hb) hkt
    have hn1 := Nat.le_trans (bd2 hb) hnt
    replace hb := bdA hb
    refine x_callF (pc := 20) (As := []) (rest := []) (mc' := p9.2.1) (ms' := p9.2.2) (dK D_LP_late_0 10 rfl) LE_Itr_next (List.mem_of_getElem? (i := 1) rfl) q_849 q_852 q_854 rfl q_820 (fitK rfl) (isK_at (Z := (S, L)) (ci := 14) hk10) rfl (leK rfl) hk1 hn1 (tg_Itr_next  e_p9) (kxR (fun h_p9 => ?_))
    refine rfE h ?_
    clear h
    intro r11 e_r11 h
    rw [e_r11]
    refine gdE h ?_
    clear h
    intro hk12 h
    refine x_cast (pc := 25) (dK D_LP_late_0 11 rfl) q_861 (isK_at (Z := (p9.1.2.1, p9.1.2.2)) (ci := 11) hk12) ?_
    refine x_astore (pc := 28) (ls2 := [(4, .ref r11), (0, .ref c0), (1, V a1), (2, V a2), (3, .ref c3)]) (dK D_LP_late_0 12 rfl) (ltK rfl) rfl ?_
    refine x_iloadn (pc := 30) (i0 := 2) (j := 3) (dK D_LP_late_0 13 rfl) rfl rfl ?_
    refine x_aload (pc := 31) (j := 0) (dK D_LP_late_0 14 rfl) rfl ?_
    refine bnE h ?_
    clear h
    intro v13 e_v13 h
    refine wx_getI (pc := 33) (ci := 11) (f := 5) e_v13 (dK D_LP_late_0 15 rfl) q_888 (ltK rfl) (ltK rfl) ?_
    refine wx_if_le (pc := 36) (t := 68) (dK D_LP_late_0 16 rfl) rfl (vI_at e_v13).2 (fun hc25 => ?_) (fun hc25 => ?_)
    · replace h := ifP h hc25
      refine wx_iconst (pc := 68) (dK D_LP_late_0 30 rfl) ?_
      refine wx_iadd (pc := 69) (dK D_LP_late_0 31 rfl) ?_
      refine nmE h ?_
      clear h
      intro v14 e_v14 h
      refine wtop e_v14 ?_
      refine x_istoren (pc := 70) (i0 := 2) (ls2 := [(2, V v14), (4, .ref r11), (0, .ref c0), (1, V a1), (3, .ref c3)]) (dK D_LP_late_0 32 rfl) rfl (ltK rfl) rfl ?_
      refine x_goto (pc := 71) (tgt := 10) (dK D_LP_late_0 33 rfl) rfl ?_
      refine x_weak (ls' := [(0, .ref c0), (1, V a1), (2, V v14), (3, .ref c3)]) (sbc 2 rfl (sbc 3 rfl (sbc 0 rfl (sbc 4 rfl sbn)))) ?_
      replace h := ih _ _ h
      exact h _ _ hb (Vn_in e_v14) hx
    · replace h := ifN h hc25
      refine x_aloadn (pc := 39) (i0 := 0) (j := 1) (dK D_LP_late_0 17 rfl) rfl rfl ?_
      refine x_aload (pc := 40) (j := 0) (dK D_LP_late_0 18 rfl) rfl ?_
      refine bnE h ?_
      clear h
      intro v15 e_v15 h
      refine wx_getI (pc := 42) (ci := 11) (f := 5) e_v15 (dK D_LP_late_0 19 rfl) q_888 (ltK rfl) (ltK rfl) ?_
      refine gdE h ?_
      clear h
      intro hk17 h
      refine bnE h ?_
      clear h
      intro p16 e_p16 h
      refine x_callX (pc := 45) (As := [V v15]) (rest := [V a2]) (mc' := 0) (ms' := 0) (dK D_LP_late_0 20 rfl) Q_LP_79 sx_LP_form (fitK rfl) (isK_at (Z := (p9.1.2.1, p9.1.2.2)) (ci := 12) hk17) rfl (leK rfl) (Nat.le_trans (bdk hb) hkt) (Nat.le_trans (bdn hb) hnt) (tg_LP_form (vI_at e_v15).2 e_p16) (kxI' (fun h_p16 => ?_))
      refine x_iloadn (pc := 48) (i0 := 1) (j := 2) (dK D_LP_late_0 21 rfl) rfl rfl ?_
      refine wx_icmp_ne (pc := 49) (t := 68) (dK D_LP_late_0 22 rfl) rfl h_p16 ha1 (fun hc24 => ?_) (fun hc24 => ?_)
      · replace h := ifN h hc24
        refine wx_iconst (pc := 68) (dK D_LP_late_0 30 rfl) ?_
        refine wx_iadd (pc := 69) (dK D_LP_late_0 31 rfl) ?_
        refine nmE h ?_
        clear h
        intro v18 e_v18 h
        refine wtop e_v18 ?_
        refine x_istoren (pc := 70) (i0 := 2) (ls2 := [(2, V v18), (4, .ref r11), (0, .ref c0), (1, V a1), (3, .ref c3)]) (dK D_LP_late_0 32 rfl) rfl (ltK rfl) rfl ?_
        refine x_goto (pc := 71) (tgt := 10) (dK D_LP_late_0 33 rfl) rfl ?_
        refine x_weak (ls' := [(0, .ref c0), (1, V a1), (2, V v18), (3, .ref c3)]) (sbc 2 rfl (sbc 3 rfl (sbc 0 rfl (sbc 4 rfl sbn)))) ?_
        replace h := ih _ _ h
        exact h _ _ hb (Vn_in e_v18) hx
      · replace h := ifP h hc24
        refine x_aload (pc := 52) (j := 0) (dK D_LP_late_0 23 rfl) rfl ?_
        refine bnE h ?_
        clear h
        intro v19 e_v19 h
        refine wx_getI (pc := 54) (ci := 11) (f := 4) e_v19 (dK D_LP_late_0 24 rfl) q_886 (ltK rfl) (ltK rfl) ?_
        refine x_aloadn (pc := 57) (i0 := 0) (j := 1) (dK D_LP_late_0 25 rfl) rfl rfl ?_
        refine bnE h ?_
        clear h
        intro v20 e_v20 h
        refine wx_getI (pc := 58) (ci := 12) (f := 2) e_v20 (dK D_LP_late_0 26 rfl) q_771 (ltK rfl) (ltK rfl) ?_
        refine wx_icmp_le (pc := 61) (t := 68) (dK D_LP_late_0 27 rfl) rfl (vI_at e_v19).2 (vI_at e_v20).2 (fun hc23 => ?_) (fun hc23 => ?_)
        · replace h := ifP h hc23
          refine wx_iconst (pc := 68) (dK D_LP_late_0 30 rfl) ?_
          refine wx_iadd (pc := 69) (dK D_LP_late_0 31 rfl) ?_
          refine nmE h ?_
          clear h
          intro v21 e_v21 h
          refine wtop e_v21 ?_
          refine x_istoren (pc := 70) (i0 := 2) (ls2 := [(2, V v21), (4, .ref r11), (0, .ref c0), (1, V a1), (3, .ref c3)]) (dK D_LP_late_0 32 rfl) rfl (ltK rfl) rfl ?_
          refine x_goto (pc := 71) (tgt := 10) (dK D_LP_late_0 33 rfl) rfl ?_
          refine x_weak (ls' := [(0, .ref c0), (1, V a1), (2, V v21), (3, .ref c3)]) (sbc 2 rfl (sbc 3 rfl (sbc 0 rfl (sbc 4 rfl sbn)))) ?_
          replace h := ih _ _ h
          exact h _ _ hb (Vn_in e_v21) hx
        · replace h := ifN h hc23
          refine wx_iconst (pc := 64) (dK D_LP_late_0 28 rfl) ?_
          refine x_goto (pc := 65) (tgt := 69) (dK D_LP_late_0 29 rfl) rfl ?_
          refine wx_iadd (pc := 69) (dK D_LP_late_0 31 rfl) ?_
          refine nmE h ?_
          clear h
          intro v22 e_v22 h
          refine wtop e_v22 ?_
          refine x_istoren (pc := 70) (i0 := 2) (ls2 := [(2, V v22), (4, .ref r11), (0, .ref c0), (1, V a1), (3, .ref c3)]) (dK D_LP_late_0 32 rfl) rfl (ltK rfl) rfl ?_
          refine x_goto (pc := 71) (tgt := 10) (dK D_LP_late_0 33 rfl) rfl ?_
          refine x_weak (ls' := [(0, .ref c0), (1, V a1), (2, V v22), (3, .ref c3)]) (sbc 2 rfl (sbc 3 rfl (sbc 0 rfl (sbc 4 rfl sbn)))) ?_
          replace h := ih _ _ h
          exact h _ _ hb (Vn_in e_v22) hx
  · replace h := ifN h hc8
    obtain rfl := Option.some.inj h
    refine x_weak (ls' := [(0, .ref c0), (1, V a1), (2, V a2)]) (sbc 0 rfl (sbc 1 rfl (sbc 2 rfl sbn))) ?_
    refine x_room (bdk hb) (bdn hb) ?_
    exact hx ha2
def lb2_LP_late_82 (c0 : Nat) (a1 : Int) (c3 : Nat) (go : Int × LZ → Option ((Int × LZ) × Nat × Nat)) (a2 : Int) (S : St) (L : List PC) : Option ((Int × LZ) × Nat × Nat) := if isK L c3 14 = true then (bnO (gn_Itr_hasNext c3 S L) fun p32 => if p32 = true then (if isK L c3 14 = true then (bnO (gn_Itr_next c3 S L) fun p35 => adC p35.2.1 p35.2.2 (rfB p35.1.1 fun r37 => if isK p35.1.2.2 r37 11 = true then (bnO (gfI p35.1.2.2 r37 11 4) fun v39 => bnO (gfI p35.1.2.2 c0 12 2) fun v40 => if v39 ≤ v40 then (nm (wr (a2 + 0)) fun v41 => go (v41, (p35.1.2.1, p35.1.2.2))) else (if isK p35.1.2.2 c0 12 = true then (bnO (gn_LP_touches c0 r37 a1 p35.1.2.1 p35.1.2.2) fun p42 => if p42 = true then (nm (wr (a2 + 1)) fun v46 => go (v46, (p35.1.2.1, p35.1.2.2))) else (nm (wr (a2 + 0)) fun v45 => go (v45, (p35.1.2.1, p35.1.2.2)))) else none)) else none)) else none) else (some ((a2, (S, L)), 0, 0))) else none
def lo2_LP_late_82 (c0 : Nat) (a1 : Int) (c3 : Nat) : Nat → Int × LZ → Option ((Int × LZ) × Nat × Nat) := lp fun go p => lb2_LP_late_82 c0 a1 c3 go p.1 p.2.1 p.2.2
theorem tl2_LP_late_82 {sc : SC} {c0 : Nat} {a1 : Int} (ha1 : inR a1) {c3 : Nat} {K : Option Value → List PC → Prop} {mc ms kt nt : Nat} (hkt : kt ≤ mc) (hnt : nt ≤ ms) : ∀ (N : Nat) (a : Int × LZ) (q : (Int × LZ) × Nat × Nat), lo2_LP_late_82 c0 a1 c3 N a = some q → ∀ k n, Bd k n kt nt q → inR a.1 → (inR q.1.1 → GX sc M_LP_late mc ms 135 [(2, V q.1.1)] [] (wz q.1.2) kt nt K) → GX sc M_LP_late mc ms 82 [(0, .ref c0), (1, V a1), (2, V a.1), (3, .ref c3)] [] (wz a.2) k n K := by
  refine lp_ind2 (P := fun (a : Int × LZ) (q : (Int × LZ) × Nat × Nat) => ∀ k n, Bd k n kt nt q → inR a.1 → (inR q.1.1 → GX sc M_LP_late mc ms 135 [(2, V q.1.1)] [] (wz q.1.2) kt nt K) → GX sc M_LP_late mc ms 82 [(0, .ref c0), (1, V a1), (2, V a.1), (3, .ref c3)] [] (wz a.2) k n K) (fun go ih a q h => ?_)
  obtain ⟨a2, ⟨S, L⟩⟩ := a
  intro k n hb ha2 hx
  show GX sc M_LP_late mc ms 82 [(0, .ref c0), (1, V a1), (2, V a2), (3, .ref c3)] [] (wz (S, L)) k n K
  replace h : lb2_LP_late_82 c0 a1 c3 go a2 S L = some q := h
  unfold lb2_LP_late_82 at h
  refine x_aloadn (pc := 82) (i0 := 3) (j := 3) (dK D_LP_late_0 38 rfl) rfl rfl ?_
  refine gdE h ?_
  clear h
  intro hk33 h
  refine bnE h ?_
  clear h
  intro p32 e_p32 h
  refine x_callF (pc := 83) (As := []) (rest := []) (mc' := 0) (ms' := 0) (dK D_LP_late_0 39 rfl) LE_Itr_hasNext (List.mem_of_getElem? (i := 0) rfl) q_839 q_843 q_845 rfl q_820 (fitK rfl) (isK_at (Z := (S, L)) (ci := 14) hk33) rfl (leK rfl) (Nat.le_trans (bdk hb) hkt) (Nat.le_trans (bdn hb) hnt) (tg_Itr_hasNext  e_p32) (kxB' ?_)
  refine wx_ifB_eq (pc := 88) (b := p32) (t := 135) (dK D_LP_late_0 40 rfl) rfl (fun hc34 => ?_) (fun hc34 => ?_)
  · replace h := ifP h hc34
    refine x_aloadn (pc := 91) (i0 := 3) (j := 3) (dK D_LP_late_0 41 rfl) rfl rfl ?_
    refine gdE h ?_
    clear h
    intro hk36 h
    refine bnE h ?_
    clear h
    intro p35 e_p35 h
    obtain ⟨yp35, h9, e9⟩ := adE2 h
    clear h
    subst e9
    have h := h9
    clear h9
    have hk1 := Nat.le_trans (bd1 hb) hkt
    have hn1 := Nat.le_trans (bd2 hb) hnt
    replace hb := bdA hb
    refine x_callF (pc := 92) (As := []) (rest := []) (mc' := p35.2.1) (ms' := p35.2.2) (dK D_LP_late_0 42 rfl) LE_Itr_next (List.mem_of_getElem? (i := 1) rfl) q_849 q_852 q_854 rfl q_820 (fitK rfl) (isK_at (Z := (S, L)) (ci := 14) hk36) rfl (leK rfl) hk1 hn1 (tg_Itr_next  e_p35) (kxR (fun h_p35 => ?_))
    refine rfE h ?_
    clear h
    intro r37 e_r37 h
    rw [e_r37]
    refine gdE h ?_
    clear h
    intro hk38 h
    refine x_cast (pc := 97) (dK D_LP_late_0 43 rfl) q_861 (isK_at (Z := (p35.1.2.1, p35.1.2.2)) (ci := 11) hk38) ?_
    refine x_astore (pc := 100) (ls2 := [(4, .ref r37), (0, .ref c0), (1, V a1), (2, V a2), (3, .ref c3)]) (dK D_LP_late_0 44 rfl) (ltK rfl) rfl ?_
    refine x_iloadn (pc := 102) (i0 := 2) (j := 3) (dK D_LP_late_0 45 rfl) rfl rfl ?_
    refine x_aload (pc := 103) (j := 0) (dK D_LP_late_0 46 rfl) rfl ?_
    refine bnE h ?_
    clear h
    intro v39 e_v39 h
    refine wx_getI (pc := 105) (ci := 11) (f := 4) e_v39 (dK D_LP_late_0 47 rfl) q_886 (ltK rfl) (ltK rfl) ?_
    refine x_aloadn (pc := 108) (i0 := 0) (j := 1) (dK D_LP_late_0 48 rfl) rfl rfl ?_
    refine bnE h ?_
    clear h
    intro v40 e_v40 h
    refine wx_getI (pc := 109) (ci := 12) (f := 2) e_v40 (dK D_LP_late_0 49 rfl) q_771 (ltK rfl) (ltK rfl) ?_
    refine wx_icmp_le (pc := 112) (t := 129) (dK D_LP_late_1 0 rfl) rfl (vI_at e_v39).2 (vI_at e_v40).2 (fun hc47 => ?_) (fun hc47 => ?_)
    · replace h := ifP h hc47
      refine wx_iconst (pc := 129) (dK D_LP_late_1 8 rfl) ?_
      refine wx_iadd (pc := 130) (dK D_LP_late_1 9 rfl) ?_
      refine nmE h ?_
      clear h
      intro v41 e_v41 h
      refine wtop e_v41 ?_
      refine x_istoren (pc := 131) (i0 := 2) (ls2 := [(2, V v41), (4, .ref r37), (0, .ref c0), (1, V a1), (3, .ref c3)]) (dK D_LP_late_1 10 rfl) rfl (ltK rfl) rfl ?_
      refine x_goto (pc := 132) (tgt := 82) (dK D_LP_late_1 11 rfl) rfl ?_
      refine x_weak (ls' := [(0, .ref c0), (1, V a1), (2, V v41), (3, .ref c3)]) (sbc 2 rfl (sbc 3 rfl (sbc 0 rfl (sbc 4 rfl sbn)))) ?_
      replace h := ih _ _ h
      exact h _ _ hb (Vn_in e_v41) hx
    · replace h := ifN h hc47
      refine x_aloadn (pc := 115) (i0 := 0) (j := 1) (dK D_LP_late_1 1 rfl) rfl rfl ?_
      refine x_aload (pc := 116) (j := 0) (dK D_LP_late_1 2 rfl) rfl ?_
      refine x_iloadn (pc := 118) (i0 := 1) (j := 2) (dK D_LP_late_1 3 rfl) rfl rfl ?_
      refine gdE h ?_
      clear h
      intro hk43 h
      refine bnE h ?_
      clear h
      intro p42 e_p42 h
      refine x_callX (pc := 119) (As := [.ref r37, V a1]) (rest := [V a2]) (mc' := 0) (ms' := 0) (dK D_LP_late_1 4 rfl) Q_LP_137 sx_LP_touches (fitK rfl) (isK_at (Z := (p35.1.2.1, p35.1.2.2)) (ci := 12) hk43) rfl (leK rfl) (Nat.le_trans (bdk hb) hkt) (Nat.le_trans (bdn hb) hnt) (tg_LP_touches ha1 e_p42) (kxB' ?_)
      refine wx_ifB_eq (pc := 122) (b := p42) (t := 129) (dK D_LP_late_1 5 rfl) rfl (fun hc44 => ?_) (fun hc44 => ?_)
      · replace h := ifP h hc44
        refine wx_iconst (pc := 125) (dK D_LP_late_1 6 rfl) ?_
        refine x_goto (pc := 126) (tgt := 130) (dK D_LP_late_1 7 rfl) rfl ?_
        refine wx_iadd (pc := 130) (dK D_LP_late_1 9 rfl) ?_
        refine nmE h ?_
        clear h
        intro v46 e_v46 h
        refine wtop e_v46 ?_
        refine x_istoren (pc := 131) (i0 := 2) (ls2 := [(2, V v46), (4, .ref r37), (0, .ref c0), (1, V a1), (3, .ref c3)]) (dK D_LP_late_1 10 rfl) rfl (ltK rfl) rfl ?_
        refine x_goto (pc := 132) (tgt := 82) (dK D_LP_late_1 11 rfl) rfl ?_
        refine x_weak (ls' := [(0, .ref c0), (1, V a1), (2, V v46), (3, .ref c3)]) (sbc 2 rfl (sbc 3 rfl (sbc 0 rfl (sbc 4 rfl sbn)))) ?_
        replace h := ih _ _ h
        exact h _ _ hb (Vn_in e_v46) hx
      · replace h := ifN h hc44
        refine wx_iconst (pc := 129) (dK D_LP_late_1 8 rfl) ?_
        refine wx_iadd (pc := 130) (dK D_LP_late_1 9 rfl) ?_
        refine nmE h ?_
        clear h
        intro v45 e_v45 h
        refine wtop e_v45 ?_
        refine x_istoren (pc := 131) (i0 := 2) (ls2 := [(2, V v45), (4, .ref r37), (0, .ref c0), (1, V a1), (3, .ref c3)]) (dK D_LP_late_1 10 rfl) rfl (ltK rfl) rfl ?_
        refine x_goto (pc := 132) (tgt := 82) (dK D_LP_late_1 11 rfl) rfl ?_
        refine x_weak (ls' := [(0, .ref c0), (1, V a1), (2, V v45), (3, .ref c3)]) (sbc 2 rfl (sbc 3 rfl (sbc 0 rfl (sbc 4 rfl sbn)))) ?_
        replace h := ih _ _ h
        exact h _ _ hb (Vn_in e_v45) hx
  · replace h := ifN h hc34
    obtain rfl := Option.some.inj h
    refine x_weak (ls' := [(2, V a2)]) (sbc 2 rfl sbn) ?_
    refine x_room (bdk hb) (bdn hb) ?_
    exact hx ha2
def gn_LP_late (c0 : Nat) (a1 : Int) (S : St) (L : List PC) : Option ((Int × LZ) × Nat × Nat) := bnO (gfV L c0 12 4) fun v1 => rfB v1 fun r2 => if isK L r2 13 = true then (bnO (gn_AL_iterator r2 S L) fun p3 => adC p3.2.1 p3.2.2 (rfB p3.1.1 fun r5 => bnO (lo2_LP_late_10 c0 a1 r5 FU (0, (p3.1.2.1, p3.1.2.2))) fun p26 => adC p26.2.1 p26.2.2 (bnO (gfV p26.1.2.2 c0 12 5) fun v27 => rfB v27 fun r28 => if isK p26.1.2.2 r28 13 = true then (bnO (gn_AL_iterator r28 p26.1.2.1 p26.1.2.2) fun p29 => adC p29.2.1 p29.2.2 (rfB p29.1.1 fun r31 => bnO (lo2_LP_late_82 c0 a1 r31 FU (p26.1.1, (p29.1.2.1, p29.1.2.2))) fun p48 => adC p48.2.1 p48.2.2 (some ((p48.1.1, (p48.1.2.1, p48.1.2.2)), 0, 0)))) else none))) else none
theorem te_LP_late {sc : SC} {c0 : Nat} {a1 : Int} (ha1 : inR a1) {S : St} {L : List PC} {q : (Int × LZ) × Nat × Nat} (h : gn_LP_late c0 a1 S L = some q) {mc ms k n : Nat} (hb : Bd k n mc ms q) : GX sc M_LP_late mc ms 0 [(0, .ref c0), (1, V a1)] [] (wz (S, L)) k n (KXI q.1.1 q.1.2) := by
  unfold gn_LP_late at h
  refine wx_iconst (pc := 0) (dK D_LP_late_0 0 rfl) ?_
  refine x_istoren (pc := 1) (i0 := 2) (ls2 := [(2, V 0), (0, .ref c0), (1, V a1)]) (dK D_LP_late_0 1 rfl) rfl (ltK rfl) rfl ?_
  refine x_aloadn (pc := 2) (i0 := 0) (j := 1) (dK D_LP_late_0 2 rfl) rfl rfl ?_
  refine bnE h ?_
  clear h
  intro v1 e_v1 h
  refine wx_getV (pc := 3) (ci := 12) (f := 4) e_v1 (dK D_LP_late_0 3 rfl) q_775 (ltK rfl) (ltK rfl) (fun hv1 => ?_)
  refine rfE h ?_
  clear h
  intro r2 e_r2 h
  rw [e_r2]
  refine gdE h ?_
  clear h
  intro hk4 h
  refine bnE h ?_
  clear h
  intro p3 e_p3 h
  obtain ⟨yp3, h9, e9⟩ := adE2 h
  clear h
  subst e9
  have h := h9
  clear h9
  have hk1 := bd1 hb
  have hn1 := bd2 hb
  replace hb := bdA hb
  refine x_callX (pc := 6) (As := []) (rest := []) (mc' := p3.2.1) (ms' := p3.2.2) (dK D_LP_late_0 4 rfl) Q_LP_49 sx_AL_iterator (fitK rfl) (isK_at (Z := (S, L)) (ci := 13) hk4) rfl (leK rfl) hk1 hn1 (tg_AL_iterator  e_p3) (kxR (fun h_p3 => ?_))
  refine x_astorenV (pc := 9) (i0 := 3) (ls2 := [(3, p3.1.1), (2, V 0), (0, .ref c0), (1, V a1)]) h_p3 (dK D_LP_late_0 5 rfl) rfl (ltK rfl) rfl ?_
  refine rfE h ?_
  clear h
  intro r5 e_r5 h
  rw [e_r5]
  refine bnE h ?_
  clear h
  intro p26 e_p26 h
  obtain ⟨yp26, h9, e9⟩ := adE2 h
  clear h
  subst e9
  have h := h9
  clear h9
  have hk1 := bd1 hb
  have hn1 := bd2 hb
  replace hb := bdA hb
  refine x_weak (ls' := [(0, .ref c0), (1, V a1), (2, V 0), (3, .ref r5)]) (sbc 2 rfl (sbc 3 rfl (sbc 1 rfl (sbc 0 rfl sbn)))) ?_
  refine tl2_LP_late_10 ha1 hk1 hn1 FU _ _ e_p26 _ _ ⟨Nat.le_refl _, Nat.le_refl _⟩ (inRk rfl) (fun hx2_p26 => ?_)
  refine x_aloadn (pc := 74) (i0 := 0) (j := 0) (dK D_LP_late_0 34 rfl) rfl rfl ?_
  refine bnE h ?_
  clear h
  intro v27 e_v27 h
  refine wx_getV (pc := 75) (ci := 12) (f := 5) e_v27 (dK D_LP_late_0 35 rfl) q_777 (ltK rfl) (ltK rfl) (fun hv27 => ?_)
  refine rfE h ?_
  clear h
  intro r28 e_r28 h
  rw [e_r28]
  refine gdE h ?_
  clear h
  intro hk30 h
  refine bnE h ?_
  clear h
  intro p29 e_p29 h
  obtain ⟨yp29, h9, e9⟩ := adE2 h
  clear h
  subst e9
  have h := h9
  clear h9
  have hk1 := bd1 hb
  have hn1 := bd2 hb
  replace hb := bdA hb
  refine x_callX (pc := 78) (As := []) (rest := []) (mc' := p29.2.1) (ms' := p29.2.2) (dK D_LP_late_0 36 rfl) Q_LP_49 sx_AL_iterator (fitK rfl) (isK_at (Z := (p26.1.2.1, p26.1.2.2)) (ci := 13) hk30) rfl (leK rfl) hk1 hn1 (tg_AL_iterator  e_p29) (kxR (fun h_p29 => ?_))
  refine x_astorenV (pc := 81) (i0 := 3) (ls2 := [(3, p29.1.1), (0, .ref c0), (1, V a1), (2, V p26.1.1)]) h_p29 (dK D_LP_late_0 37 rfl) rfl (ltK rfl) rfl ?_
  refine rfE h ?_
  clear h
  intro r31 e_r31 h
  rw [e_r31]
  refine bnE h ?_
  clear h
  intro p48 e_p48 h
  obtain ⟨yp48, h9, e9⟩ := adE2 h
  clear h
  subst e9
  have h := h9
  clear h9
  have hk1 := bd1 hb
  have hn1 := bd2 hb
  replace hb := bdA hb
  refine x_weak (ls' := [(0, .ref c0), (1, V a1), (2, V p26.1.1), (3, .ref r31)]) (sbc 1 rfl (sbc 2 rfl (sbc 3 rfl (sbc 0 rfl sbn)))) ?_
  refine tl2_LP_late_82 ha1 hk1 hn1 FU _ _ e_p48 _ _ ⟨Nat.le_refl _, Nat.le_refl _⟩ hx2_p26 (fun hx2_p48 => ?_)
  refine x_iloadn (pc := 135) (i0 := 2) (j := 0) (dK D_LP_late_1 12 rfl) rfl rfl ?_
  obtain rfl := Option.some.inj h
  exact wk_iretI (pc := 136) (dK D_LP_late_1 13 rfl) rfl (bdk hb) (bdn hb) ⟨rfl, hx2_p48, rfl⟩
theorem tg_LP_late {sc : SC} {c0 : Nat} {a1 : Int} (ha1 : inR a1) {S : St} {L : List PC} {q : (Int × LZ) × Nat × Nat} (h : gn_LP_late c0 a1 S L = some q) : EvX sc M_LP_late [.ref c0, V a1] (wz (S, L)) q.2.1 q.2.2 (KXI q.1.1 q.1.2) := EvX.of pn2_LP rfl (leK rfl) (te_LP_late ha1 h ⟨Nat.le_of_eq (Nat.zero_add _), Nat.le_of_eq (Nat.zero_add _)⟩)
def lb2_LP_hasColor_10 (c0 : Nat) (a1 : Int) (c3 : Nat) (go : Int × LZ → Option ((Int × LZ) × Nat × Nat)) (a2 : Int) (S : St) (L : List PC) : Option ((Int × LZ) × Nat × Nat) := if isK L c3 14 = true then (bnO (gn_Itr_hasNext c3 S L) fun p6 => if p6 = true then (if isK L c3 14 = true then (bnO (gn_Itr_next c3 S L) fun p9 => adC p9.2.1 p9.2.2 (rfB p9.1.1 fun r11 => if isK p9.1.2.2 r11 11 = true then (if a2 = 0 then (bnO (gfI p9.1.2.2 r11 11 6) fun v13 => if v13 = 0 then (go (0, (p9.1.2.1, p9.1.2.2))) else (bnO (gfI p9.1.2.2 r11 11 5) fun v14 => if v14 ≤ 0 then (go (0, (p9.1.2.1, p9.1.2.2))) else (bnO (gfI p9.1.2.2 r11 11 5) fun v15 => if isK p9.1.2.2 c0 12 = true then (bnO (gn_LP_form c0 v15 p9.1.2.1 p9.1.2.2) fun p16 => if p16 = a1 then (go (1, (p9.1.2.1, p9.1.2.2))) else (go (0, (p9.1.2.1, p9.1.2.2)))) else none))) else (go (1, (p9.1.2.1, p9.1.2.2)))) else none)) else none) else (some ((a2, (S, L)), 0, 0))) else none
def lo2_LP_hasColor_10 (c0 : Nat) (a1 : Int) (c3 : Nat) : Nat → Int × LZ → Option ((Int × LZ) × Nat × Nat) := lp fun go p => lb2_LP_hasColor_10 c0 a1 c3 go p.1 p.2.1 p.2.2
theorem tl2_LP_hasColor_10 {sc : SC} {c0 : Nat} {a1 : Int} (ha1 : inR a1) {c3 : Nat} {K : Option Value → List PC → Prop} {mc ms kt nt : Nat} (hkt : kt ≤ mc) (hnt : nt ≤ ms) : ∀ (N : Nat) (a : Int × LZ) (q : (Int × LZ) × Nat × Nat), lo2_LP_hasColor_10 c0 a1 c3 N a = some q → ∀ k n, Bd k n kt nt q → inR a.1 → (inR q.1.1 → GX sc M_LP_hasColor mc ms 72 [(0, .ref c0), (1, V a1), (2, V q.1.1)] [] (wz q.1.2) kt nt K) → GX sc M_LP_hasColor mc ms 10 [(0, .ref c0), (1, V a1), (2, V a.1), (3, .ref c3)] [] (wz a.2) k n K := by
  refine lp_ind2 (P := fun (a : Int × LZ) (q : (Int × LZ) × Nat × Nat) => ∀ k n, Bd k n kt nt q → inR a.1 → (inR q.1.1 → GX sc M_LP_hasColor mc ms 72 [(0, .ref c0), (1, V a1), (2, V q.1.1)] [] (wz q.1.2) kt nt K) → GX sc M_LP_hasColor mc ms 10 [(0, .ref c0), (1, V a1), (2, V a.1), (3, .ref c3)] [] (wz a.2) k n K) (fun go ih a q h => ?_)
  obtain ⟨a2, ⟨S, L⟩⟩ := a
  intro k n hb ha2 hx
  show GX sc M_LP_hasColor mc ms 10 [(0, .ref c0), (1, V a1), (2, V a2), (3, .ref c3)] [] (wz (S, L)) k n K
  replace h : lb2_LP_hasColor_10 c0 a1 c3 go a2 S L = some q := h
  unfold lb2_LP_hasColor_10 at h
  refine x_aloadn (pc := 10) (i0 := 3) (j := 3) (dK D_LP_hasColor_0 6 rfl) rfl rfl ?_
  refine gdE h ?_
  clear h
  intro hk7 h
  refine bnE h ?_
  clear h
  intro p6 e_p6 h
  refine x_callF (pc := 11) (As := []) (rest := []) (mc' := 0) (ms' := 0) (dK D_LP_hasColor_0 7 rfl) LE_Itr_hasNext (List.mem_of_getElem? (i := 0) rfl) q_839 q_843 q_845 rfl q_820 (fitK rfl) (isK_at (Z := (S, L)) (ci := 14) hk7) rfl (leK rfl) (Nat.le_trans (bdk hb) hkt) (Nat.le_trans (bdn hb) hnt) (tg_Itr_hasNext  e_p6) (kxB' ?_)
  refine wx_ifB_eq (pc := 16) (b := p6) (t := 72) (dK D_LP_hasColor_0 8 rfl) rfl (fun hc8 => ?_) (fun hc8 => ?_)
  · replace h := ifP h hc8
    refine x_aloadn (pc := 19) (i0 := 3) (j := 3) (dK D_LP_hasColor_0 9 rfl) rfl rfl ?_
    refine gdE h ?_
    clear h
    intro hk10 h
    refine bnE h ?_
    clear h
    intro p9 e_p9 h
    obtain ⟨yp9, h9, e9⟩ := adE2 h
    clear h
    subst e9
    have h := h9
    clear h9
    have hk1 := Nat.le_trans (bd1 hb) hkt
    have hn1 := Nat.le_trans (bd2 hb) hnt
    replace hb := bdA hb
    refine x_callF (pc := 20) (As := []) (rest := []) (mc' := p9.2.1) (ms' := p9.2.2) (dK D_LP_hasColor_0 10 rfl) LE_Itr_next (List.mem_of_getElem? (i := 1) rfl) q_849 q_852 q_854 rfl q_820 (fitK rfl) (isK_at (Z := (S, L)) (ci := 14) hk10) rfl (leK rfl) hk1 hn1 (tg_Itr_next  e_p9) (kxR (fun h_p9 => ?_))
    refine rfE h ?_
    clear h
    intro r11 e_r11 h
    rw [e_r11]
    refine gdE h ?_
    clear h
    intro hk12 h
    refine x_cast (pc := 25) (dK D_LP_hasColor_0 11 rfl) q_861 (isK_at (Z := (p9.1.2.1, p9.1.2.2)) (ci := 11) hk12) ?_
    refine x_astore (pc := 28) (ls2 := [(4, .ref r11), (0, .ref c0), (1, V a1), (2, V a2), (3, .ref c3)]) (dK D_LP_hasColor_0 12 rfl) (ltK rfl) rfl ?_
    refine x_iloadn (pc := 30) (i0 := 2) (j := 3) (dK D_LP_hasColor_0 13 rfl) rfl rfl ?_
    refine wx_if_ne (pc := 31) (t := 63) (dK D_LP_hasColor_0 14 rfl) rfl ha2 (fun hc21 => ?_) (fun hc21 => ?_)
    · replace h := ifN h hc21
      refine wx_iconst (pc := 63) (dK D_LP_hasColor_0 27 rfl) ?_
      refine x_goto (pc := 64) (tgt := 68) (dK D_LP_hasColor_0 28 rfl) rfl ?_
      refine x_istoren (pc := 68) (i0 := 2) (ls2 := [(2, V 1), (4, .ref r11), (0, .ref c0), (1, V a1), (3, .ref c3)]) (dK D_LP_hasColor_0 30 rfl) rfl (ltK rfl) rfl ?_
      refine x_goto (pc := 69) (tgt := 10) (dK D_LP_hasColor_0 31 rfl) rfl ?_
      refine x_weak (ls' := [(0, .ref c0), (1, V a1), (2, V 1), (3, .ref c3)]) (sbc 2 rfl (sbc 3 rfl (sbc 0 rfl (sbc 4 rfl sbn)))) ?_
      replace h := ih _ _ h
      exact h _ _ hb (inRk rfl) hx
    · replace h := ifP h hc21
      refine x_aload (pc := 34) (j := 0) (dK D_LP_hasColor_0 15 rfl) rfl ?_
      refine bnE h ?_
      clear h
      intro v13 e_v13 h
      refine wx_getI (pc := 36) (ci := 11) (f := 6) e_v13 (dK D_LP_hasColor_0 16 rfl) q_892 (ltK rfl) (ltK rfl) ?_
      refine wx_if_eq (pc := 39) (t := 67) (dK D_LP_hasColor_0 17 rfl) rfl (vI_at e_v13).2 (fun hc20 => ?_) (fun hc20 => ?_)
      · replace h := ifP h hc20
        refine wx_iconst (pc := 67) (dK D_LP_hasColor_0 29 rfl) ?_
        refine x_istoren (pc := 68) (i0 := 2) (ls2 := [(2, V 0), (4, .ref r11), (0, .ref c0), (1, V a1), (3, .ref c3)]) (dK D_LP_hasColor_0 30 rfl) rfl (ltK rfl) rfl ?_
        refine x_goto (pc := 69) (tgt := 10) (dK D_LP_hasColor_0 31 rfl) rfl ?_
        refine x_weak (ls' := [(0, .ref c0), (1, V a1), (2, V 0), (3, .ref c3)]) (sbc 2 rfl (sbc 3 rfl (sbc 0 rfl (sbc 4 rfl sbn)))) ?_
        replace h := ih _ _ h
        exact h _ _ hb (inRk rfl) hx
      · replace h := ifN h hc20
        refine x_aload (pc := 42) (j := 0) (dK D_LP_hasColor_0 18 rfl) rfl ?_
        refine bnE h ?_
        clear h
        intro v14 e_v14 h
        refine wx_getI (pc := 44) (ci := 11) (f := 5) e_v14 (dK D_LP_hasColor_0 19 rfl) q_888 (ltK rfl) (ltK rfl) ?_
        refine wx_if_le (pc := 47) (t := 67) (dK D_LP_hasColor_0 20 rfl) rfl (vI_at e_v14).2 (fun hc19 => ?_) (fun hc19 => ?_)
        · replace h := ifP h hc19
          refine wx_iconst (pc := 67) (dK D_LP_hasColor_0 29 rfl) ?_
          refine x_istoren (pc := 68) (i0 := 2) (ls2 := [(2, V 0), (4, .ref r11), (0, .ref c0), (1, V a1), (3, .ref c3)]) (dK D_LP_hasColor_0 30 rfl) rfl (ltK rfl) rfl ?_
          refine x_goto (pc := 69) (tgt := 10) (dK D_LP_hasColor_0 31 rfl) rfl ?_
          refine x_weak (ls' := [(0, .ref c0), (1, V a1), (2, V 0), (3, .ref c3)]) (sbc 2 rfl (sbc 3 rfl (sbc 0 rfl (sbc 4 rfl sbn)))) ?_
          replace h := ih _ _ h
          exact h _ _ hb (inRk rfl) hx
        · replace h := ifN h hc19
          refine x_aloadn (pc := 50) (i0 := 0) (j := 1) (dK D_LP_hasColor_0 21 rfl) rfl rfl ?_
          refine x_aload (pc := 51) (j := 0) (dK D_LP_hasColor_0 22 rfl) rfl ?_
          refine bnE h ?_
          clear h
          intro v15 e_v15 h
          refine wx_getI (pc := 53) (ci := 11) (f := 5) e_v15 (dK D_LP_hasColor_0 23 rfl) q_888 (ltK rfl) (ltK rfl) ?_
          refine gdE h ?_
          clear h
          intro hk17 h
          refine bnE h ?_
          clear h
          intro p16 e_p16 h
          refine x_callX (pc := 56) (As := [V v15]) (rest := []) (mc' := 0) (ms' := 0) (dK D_LP_hasColor_0 24 rfl) Q_LP_79 sx_LP_form (fitK rfl) (isK_at (Z := (p9.1.2.1, p9.1.2.2)) (ci := 12) hk17) rfl (leK rfl) (Nat.le_trans (bdk hb) hkt) (Nat.le_trans (bdn hb) hnt) (tg_LP_form (vI_at e_v15).2 e_p16) (kxI' (fun h_p16 => ?_))
          refine x_iloadn (pc := 59) (i0 := 1) (j := 2) (dK D_LP_hasColor_0 25 rfl) rfl rfl ?_
          refine wx_icmp_ne (pc := 60) (t := 67) (dK D_LP_hasColor_0 26 rfl) rfl h_p16 ha1 (fun hc18 => ?_) (fun hc18 => ?_)
          · replace h := ifN h hc18
            refine wx_iconst (pc := 67) (dK D_LP_hasColor_0 29 rfl) ?_
            refine x_istoren (pc := 68) (i0 := 2) (ls2 := [(2, V 0), (4, .ref r11), (0, .ref c0), (1, V a1), (3, .ref c3)]) (dK D_LP_hasColor_0 30 rfl) rfl (ltK rfl) rfl ?_
            refine x_goto (pc := 69) (tgt := 10) (dK D_LP_hasColor_0 31 rfl) rfl ?_
            refine x_weak (ls' := [(0, .ref c0), (1, V a1), (2, V 0), (3, .ref c3)]) (sbc 2 rfl (sbc 3 rfl (sbc 0 rfl (sbc 4 rfl sbn)))) ?_
            replace h := ih _ _ h
            exact h _ _ hb (inRk rfl) hx
          · replace h := ifP h hc18
            refine wx_iconst (pc := 63) (dK D_LP_hasColor_0 27 rfl) ?_
            refine x_goto (pc := 64) (tgt := 68) (dK D_LP_hasColor_0 28 rfl) rfl ?_
            refine x_istoren (pc := 68) (i0 := 2) (ls2 := [(2, V 1), (4, .ref r11), (0, .ref c0), (1, V a1), (3, .ref c3)]) (dK D_LP_hasColor_0 30 rfl) rfl (ltK rfl) rfl ?_
            refine x_goto (pc := 69) (tgt := 10) (dK D_LP_hasColor_0 31 rfl) rfl ?_
            refine x_weak (ls' := [(0, .ref c0), (1, V a1), (2, V 1), (3, .ref c3)]) (sbc 2 rfl (sbc 3 rfl (sbc 0 rfl (sbc 4 rfl sbn)))) ?_
            replace h := ih _ _ h
            exact h _ _ hb (inRk rfl) hx
  · replace h := ifN h hc8
    obtain rfl := Option.some.inj h
    refine x_weak (ls' := [(0, .ref c0), (1, V a1), (2, V a2)]) (sbc 0 rfl (sbc 1 rfl (sbc 2 rfl sbn))) ?_
    refine x_room (bdk hb) (bdn hb) ?_
    exact hx ha2
def lb2_LP_hasColor_80 (c0 : Nat) (a1 : Int) (c3 : Nat) (go : Int × LZ → Option ((Int × LZ) × Nat × Nat)) (a2 : Int) (S : St) (L : List PC) : Option ((Int × LZ) × Nat × Nat) := if isK L c3 14 = true then (bnO (gn_Itr_hasNext c3 S L) fun p28 => if p28 = true then (if isK L c3 14 = true then (bnO (gn_Itr_next c3 S L) fun p31 => adC p31.2.1 p31.2.2 (rfB p31.1.1 fun r33 => if isK p31.1.2.2 r33 11 = true then (if a2 = 0 then (bnO (gfI p31.1.2.2 r33 11 6) fun v35 => if v35 = 0 then (go (0, (p31.1.2.1, p31.1.2.2))) else (if isK p31.1.2.2 c0 12 = true then (bnO (gn_LP_touches c0 r33 a1 p31.1.2.1 p31.1.2.2) fun p36 => if p36 = true then (go (1, (p31.1.2.1, p31.1.2.2))) else (go (0, (p31.1.2.1, p31.1.2.2)))) else none)) else (go (1, (p31.1.2.1, p31.1.2.2)))) else none)) else none) else (some ((a2, (S, L)), 0, 0))) else none
def lo2_LP_hasColor_80 (c0 : Nat) (a1 : Int) (c3 : Nat) : Nat → Int × LZ → Option ((Int × LZ) × Nat × Nat) := lp fun go p => lb2_LP_hasColor_80 c0 a1 c3 go p.1 p.2.1 p.2.2
theorem tl2_LP_hasColor_80 {sc : SC} {c0 : Nat} {a1 : Int} (ha1 : inR a1) {c3 : Nat} {K : Option Value → List PC → Prop} {mc ms kt nt : Nat} (hkt : kt ≤ mc) (hnt : nt ≤ ms) : ∀ (N : Nat) (a : Int × LZ) (q : (Int × LZ) × Nat × Nat), lo2_LP_hasColor_80 c0 a1 c3 N a = some q → ∀ k n, Bd k n kt nt q → inR a.1 → (inR q.1.1 → GX sc M_LP_hasColor mc ms 131 [(2, V q.1.1)] [] (wz q.1.2) kt nt K) → GX sc M_LP_hasColor mc ms 80 [(0, .ref c0), (1, V a1), (2, V a.1), (3, .ref c3)] [] (wz a.2) k n K := by
  refine lp_ind2 (P := fun (a : Int × LZ) (q : (Int × LZ) × Nat × Nat) => ∀ k n, Bd k n kt nt q → inR a.1 → (inR q.1.1 → GX sc M_LP_hasColor mc ms 131 [(2, V q.1.1)] [] (wz q.1.2) kt nt K) → GX sc M_LP_hasColor mc ms 80 [(0, .ref c0), (1, V a1), (2, V a.1), (3, .ref c3)] [] (wz a.2) k n K) (fun go ih a q h => ?_)
  obtain ⟨a2, ⟨S, L⟩⟩ := a
  intro k n hb ha2 hx
  show GX sc M_LP_hasColor mc ms 80 [(0, .ref c0), (1, V a1), (2, V a2), (3, .ref c3)] [] (wz (S, L)) k n K
  replace h : lb2_LP_hasColor_80 c0 a1 c3 go a2 S L = some q := h
  unfold lb2_LP_hasColor_80 at h
  refine x_aloadn (pc := 80) (i0 := 3) (j := 3) (dK D_LP_hasColor_0 36 rfl) rfl rfl ?_
  refine gdE h ?_
  clear h
  intro hk29 h
  refine bnE h ?_
  clear h
  intro p28 e_p28 h
  refine x_callF (pc := 81) (As := []) (rest := []) (mc' := 0) (ms' := 0) (dK D_LP_hasColor_0 37 rfl) LE_Itr_hasNext (List.mem_of_getElem? (i := 0) rfl) q_839 q_843 q_845 rfl q_820 (fitK rfl) (isK_at (Z := (S, L)) (ci := 14) hk29) rfl (leK rfl) (Nat.le_trans (bdk hb) hkt) (Nat.le_trans (bdn hb) hnt) (tg_Itr_hasNext  e_p28) (kxB' ?_)
  refine wx_ifB_eq (pc := 86) (b := p28) (t := 131) (dK D_LP_hasColor_0 38 rfl) rfl (fun hc30 => ?_) (fun hc30 => ?_)
  · replace h := ifP h hc30
    refine x_aloadn (pc := 89) (i0 := 3) (j := 3) (dK D_LP_hasColor_0 39 rfl) rfl rfl ?_
    refine gdE h ?_
    clear h
    intro hk32 h
    refine bnE h ?_
    clear h
    intro p31 e_p31 h
    obtain ⟨yp31, h9, e9⟩ := adE2 h
    clear h
    subst e9
    have h := h9
    clear h9
    have hk1 := Nat.le_trans (bd1 hb) hkt
    have hn1 := Nat.le_trans (bd2 hb) hnt
    replace hb := bdA hb
    refine x_callF (pc := 90) (As := []) (rest := []) (mc' := p31.2.1) (ms' := p31.2.2) (dK D_LP_hasColor_0 40 rfl) LE_Itr_next (List.mem_of_getElem? (i := 1) rfl) q_849 q_852 q_854 rfl q_820 (fitK rfl) (isK_at (Z := (S, L)) (ci := 14) hk32) rfl (leK rfl) hk1 hn1 (tg_Itr_next  e_p31) (kxR (fun h_p31 => ?_))
    refine rfE h ?_
    clear h
    intro r33 e_r33 h
    rw [e_r33]
    refine gdE h ?_
    clear h
    intro hk34 h
    refine x_cast (pc := 95) (dK D_LP_hasColor_0 41 rfl) q_861 (isK_at (Z := (p31.1.2.1, p31.1.2.2)) (ci := 11) hk34) ?_
    refine x_astore (pc := 98) (ls2 := [(4, .ref r33), (0, .ref c0), (1, V a1), (2, V a2), (3, .ref c3)]) (dK D_LP_hasColor_0 42 rfl) (ltK rfl) rfl ?_
    refine x_iloadn (pc := 100) (i0 := 2) (j := 3) (dK D_LP_hasColor_0 43 rfl) rfl rfl ?_
    refine wx_if_ne (pc := 101) (t := 122) (dK D_LP_hasColor_0 44 rfl) rfl ha2 (fun hc40 => ?_) (fun hc40 => ?_)
    · replace h := ifN h hc40
      refine wx_iconst (pc := 122) (dK D_LP_hasColor_1 3 rfl) ?_
      refine x_goto (pc := 123) (tgt := 127) (dK D_LP_hasColor_1 4 rfl) rfl ?_
      refine x_istoren (pc := 127) (i0 := 2) (ls2 := [(2, V 1), (4, .ref r33), (0, .ref c0), (1, V a1), (3, .ref c3)]) (dK D_LP_hasColor_1 6 rfl) rfl (ltK rfl) rfl ?_
      refine x_goto (pc := 128) (tgt := 80) (dK D_LP_hasColor_1 7 rfl) rfl ?_
      refine x_weak (ls' := [(0, .ref c0), (1, V a1), (2, V 1), (3, .ref c3)]) (sbc 2 rfl (sbc 3 rfl (sbc 0 rfl (sbc 4 rfl sbn)))) ?_
      replace h := ih _ _ h
      exact h _ _ hb (inRk rfl) hx
    · replace h := ifP h hc40
      refine x_aload (pc := 104) (j := 0) (dK D_LP_hasColor_0 45 rfl) rfl ?_
      refine bnE h ?_
      clear h
      intro v35 e_v35 h
      refine wx_getI (pc := 106) (ci := 11) (f := 6) e_v35 (dK D_LP_hasColor_0 46 rfl) q_892 (ltK rfl) (ltK rfl) ?_
      refine wx_if_eq (pc := 109) (t := 126) (dK D_LP_hasColor_0 47 rfl) rfl (vI_at e_v35).2 (fun hc39 => ?_) (fun hc39 => ?_)
      · replace h := ifP h hc39
        refine wx_iconst (pc := 126) (dK D_LP_hasColor_1 5 rfl) ?_
        refine x_istoren (pc := 127) (i0 := 2) (ls2 := [(2, V 0), (4, .ref r33), (0, .ref c0), (1, V a1), (3, .ref c3)]) (dK D_LP_hasColor_1 6 rfl) rfl (ltK rfl) rfl ?_
        refine x_goto (pc := 128) (tgt := 80) (dK D_LP_hasColor_1 7 rfl) rfl ?_
        refine x_weak (ls' := [(0, .ref c0), (1, V a1), (2, V 0), (3, .ref c3)]) (sbc 2 rfl (sbc 3 rfl (sbc 0 rfl (sbc 4 rfl sbn)))) ?_
        replace h := ih _ _ h
        exact h _ _ hb (inRk rfl) hx
      · replace h := ifN h hc39
        refine x_aloadn (pc := 112) (i0 := 0) (j := 1) (dK D_LP_hasColor_0 48 rfl) rfl rfl ?_
        refine x_aload (pc := 113) (j := 0) (dK D_LP_hasColor_0 49 rfl) rfl ?_
        refine x_iloadn (pc := 115) (i0 := 1) (j := 2) (dK D_LP_hasColor_1 0 rfl) rfl rfl ?_
        refine gdE h ?_
        clear h
        intro hk37 h
        refine bnE h ?_
        clear h
        intro p36 e_p36 h
        refine x_callX (pc := 116) (As := [.ref r33, V a1]) (rest := []) (mc' := 0) (ms' := 0) (dK D_LP_hasColor_1 1 rfl) Q_LP_137 sx_LP_touches (fitK rfl) (isK_at (Z := (p31.1.2.1, p31.1.2.2)) (ci := 12) hk37) rfl (leK rfl) (Nat.le_trans (bdk hb) hkt) (Nat.le_trans (bdn hb) hnt) (tg_LP_touches ha1 e_p36) (kxB' ?_)
        refine wx_ifB_eq (pc := 119) (b := p36) (t := 126) (dK D_LP_hasColor_1 2 rfl) rfl (fun hc38 => ?_) (fun hc38 => ?_)
        · replace h := ifP h hc38
          refine wx_iconst (pc := 122) (dK D_LP_hasColor_1 3 rfl) ?_
          refine x_goto (pc := 123) (tgt := 127) (dK D_LP_hasColor_1 4 rfl) rfl ?_
          refine x_istoren (pc := 127) (i0 := 2) (ls2 := [(2, V 1), (4, .ref r33), (0, .ref c0), (1, V a1), (3, .ref c3)]) (dK D_LP_hasColor_1 6 rfl) rfl (ltK rfl) rfl ?_
          refine x_goto (pc := 128) (tgt := 80) (dK D_LP_hasColor_1 7 rfl) rfl ?_
          refine x_weak (ls' := [(0, .ref c0), (1, V a1), (2, V 1), (3, .ref c3)]) (sbc 2 rfl (sbc 3 rfl (sbc 0 rfl (sbc 4 rfl sbn)))) ?_
          replace h := ih _ _ h
          exact h _ _ hb (inRk rfl) hx
        · replace h := ifN h hc38
          refine wx_iconst (pc := 126) (dK D_LP_hasColor_1 5 rfl) ?_
          refine x_istoren (pc := 127) (i0 := 2) (ls2 := [(2, V 0), (4, .ref r33), (0, .ref c0), (1, V a1), (3, .ref c3)]) (dK D_LP_hasColor_1 6 rfl) rfl (ltK rfl) rfl ?_
          refine x_goto (pc := 128) (tgt := 80) (dK D_LP_hasColor_1 7 rfl) rfl ?_
          refine x_weak (ls' := [(0, .ref c0), (1, V a1), (2, V 0), (3, .ref c3)]) (sbc 2 rfl (sbc 3 rfl (sbc 0 rfl (sbc 4 rfl sbn)))) ?_
          replace h := ih _ _ h
          exact h _ _ hb (inRk rfl) hx
  · replace h := ifN h hc30
    obtain rfl := Option.some.inj h
    refine x_weak (ls' := [(2, V a2)]) (sbc 2 rfl sbn) ?_
    refine x_room (bdk hb) (bdn hb) ?_
    exact hx ha2
def gn_LP_hasColor (c0 : Nat) (a1 : Int) (S : St) (L : List PC) : Option ((Bool × LZ) × Nat × Nat) := bnO (gfV L c0 12 4) fun v1 => rfB v1 fun r2 => if isK L r2 13 = true then (bnO (gn_AL_iterator r2 S L) fun p3 => adC p3.2.1 p3.2.2 (rfB p3.1.1 fun r5 => bnO (lo2_LP_hasColor_10 c0 a1 r5 FU (0, (p3.1.2.1, p3.1.2.2))) fun p22 => adC p22.2.1 p22.2.2 (bnO (gfV p22.1.2.2 c0 12 5) fun v23 => rfB v23 fun r24 => if isK p22.1.2.2 r24 13 = true then (bnO (gn_AL_iterator r24 p22.1.2.1 p22.1.2.2) fun p25 => adC p25.2.1 p25.2.2 (rfB p25.1.1 fun r27 => bnO (lo2_LP_hasColor_80 c0 a1 r27 FU (p22.1.1, (p25.1.2.1, p25.1.2.2))) fun p41 => adC p41.2.1 p41.2.2 (if p41.1.1 = 0 ∨ p41.1.1 = 1 then (some (((decide (p41.1.1 = 1)), (p41.1.2.1, p41.1.2.2)), 0, 0)) else none))) else none))) else none
theorem te_LP_hasColor {sc : SC} {c0 : Nat} {a1 : Int} (ha1 : inR a1) {S : St} {L : List PC} {q : (Bool × LZ) × Nat × Nat} (h : gn_LP_hasColor c0 a1 S L = some q) {mc ms k n : Nat} (hb : Bd k n mc ms q) : GX sc M_LP_hasColor mc ms 0 [(0, .ref c0), (1, V a1)] [] (wz (S, L)) k n (KXB q.1.1 q.1.2) := by
  unfold gn_LP_hasColor at h
  refine wx_iconst (pc := 0) (dK D_LP_hasColor_0 0 rfl) ?_
  refine x_istoren (pc := 1) (i0 := 2) (ls2 := [(2, V 0), (0, .ref c0), (1, V a1)]) (dK D_LP_hasColor_0 1 rfl) rfl (ltK rfl) rfl ?_
  refine x_aloadn (pc := 2) (i0 := 0) (j := 1) (dK D_LP_hasColor_0 2 rfl) rfl rfl ?_
  refine bnE h ?_
  clear h
  intro v1 e_v1 h
  refine wx_getV (pc := 3) (ci := 12) (f := 4) e_v1 (dK D_LP_hasColor_0 3 rfl) q_775 (ltK rfl) (ltK rfl) (fun hv1 => ?_)
  refine rfE h ?_
  clear h
  intro r2 e_r2 h
  rw [e_r2]
  refine gdE h ?_
  clear h
  intro hk4 h
  refine bnE h ?_
  clear h
  intro p3 e_p3 h
  obtain ⟨yp3, h9, e9⟩ := adE2 h
  clear h
  subst e9
  have h := h9
  clear h9
  have hk1 := bd1 hb
  have hn1 := bd2 hb
  replace hb := bdA hb
  refine x_callX (pc := 6) (As := []) (rest := []) (mc' := p3.2.1) (ms' := p3.2.2) (dK D_LP_hasColor_0 4 rfl) Q_LP_49 sx_AL_iterator (fitK rfl) (isK_at (Z := (S, L)) (ci := 13) hk4) rfl (leK rfl) hk1 hn1 (tg_AL_iterator  e_p3) (kxR (fun h_p3 => ?_))
  refine x_astorenV (pc := 9) (i0 := 3) (ls2 := [(3, p3.1.1), (2, V 0), (0, .ref c0), (1, V a1)]) h_p3 (dK D_LP_hasColor_0 5 rfl) rfl (ltK rfl) rfl ?_
  refine rfE h ?_
  clear h
  intro r5 e_r5 h
  rw [e_r5]
  refine bnE h ?_
  clear h
  intro p22 e_p22 h
  obtain ⟨yp22, h9, e9⟩ := adE2 h
  clear h
  subst e9
  have h := h9
  clear h9
  have hk1 := bd1 hb
  have hn1 := bd2 hb
  replace hb := bdA hb
  refine x_weak (ls' := [(0, .ref c0), (1, V a1), (2, V 0), (3, .ref r5)]) (sbc 2 rfl (sbc 3 rfl (sbc 1 rfl (sbc 0 rfl sbn)))) ?_
  refine tl2_LP_hasColor_10 ha1 hk1 hn1 FU _ _ e_p22 _ _ ⟨Nat.le_refl _, Nat.le_refl _⟩ (inRk rfl) (fun hx2_p22 => ?_)
  refine x_aloadn (pc := 72) (i0 := 0) (j := 0) (dK D_LP_hasColor_0 32 rfl) rfl rfl ?_
  refine bnE h ?_
  clear h
  intro v23 e_v23 h
  refine wx_getV (pc := 73) (ci := 12) (f := 5) e_v23 (dK D_LP_hasColor_0 33 rfl) q_777 (ltK rfl) (ltK rfl) (fun hv23 => ?_)
  refine rfE h ?_
  clear h
  intro r24 e_r24 h
  rw [e_r24]
  refine gdE h ?_
  clear h
  intro hk26 h
  refine bnE h ?_
  clear h
  intro p25 e_p25 h
  obtain ⟨yp25, h9, e9⟩ := adE2 h
  clear h
  subst e9
  have h := h9
  clear h9
  have hk1 := bd1 hb
  have hn1 := bd2 hb
  replace hb := bdA hb
  refine x_callX (pc := 76) (As := []) (rest := []) (mc' := p25.2.1) (ms' := p25.2.2) (dK D_LP_hasColor_0 34 rfl) Q_LP_49 sx_AL_iterator (fitK rfl) (isK_at (Z := (p22.1.2.1, p22.1.2.2)) (ci := 13) hk26) rfl (leK rfl) hk1 hn1 (tg_AL_iterator  e_p25) (kxR (fun h_p25 => ?_))
  refine x_astorenV (pc := 79) (i0 := 3) (ls2 := [(3, p25.1.1), (0, .ref c0), (1, V a1), (2, V p22.1.1)]) h_p25 (dK D_LP_hasColor_0 35 rfl) rfl (ltK rfl) rfl ?_
  refine rfE h ?_
  clear h
  intro r27 e_r27 h
  rw [e_r27]
  refine bnE h ?_
  clear h
  intro p41 e_p41 h
  obtain ⟨yp41, h9, e9⟩ := adE2 h
  clear h
  subst e9
  have h := h9
  clear h9
  have hk1 := bd1 hb
  have hn1 := bd2 hb
  replace hb := bdA hb
  refine x_weak (ls' := [(0, .ref c0), (1, V a1), (2, V p22.1.1), (3, .ref r27)]) (sbc 1 rfl (sbc 2 rfl (sbc 3 rfl (sbc 0 rfl sbn)))) ?_
  refine tl2_LP_hasColor_80 ha1 hk1 hn1 FU _ _ e_p41 _ _ ⟨Nat.le_refl _, Nat.le_refl _⟩ hx2_p22 (fun hx2_p41 => ?_)
  refine x_iloadn (pc := 131) (i0 := 2) (j := 0) (dK D_LP_hasColor_1 8 rfl) rfl rfl ?_
  refine gdE h ?_
  clear h
  intro hb42 h
  obtain rfl := Option.some.inj h
  refine wsk (st' := [V (bi (decide (p41.1.1 = 1)))]) (congrArg (fun z => [z]) (V_bi hb42).symm) ?_
  exact wk_iretB (pc := 132) (b := (decide (p41.1.1 = 1))) (dK D_LP_hasColor_1 9 rfl) rfl (bdk hb) (bdn hb) ⟨rfl, rfl⟩
theorem tg_LP_hasColor {sc : SC} {c0 : Nat} {a1 : Int} (ha1 : inR a1) {S : St} {L : List PC} {q : (Bool × LZ) × Nat × Nat} (h : gn_LP_hasColor c0 a1 S L = some q) : EvX sc M_LP_hasColor [.ref c0, V a1] (wz (S, L)) q.2.1 q.2.2 (KXB q.1.1 q.1.2) := EvX.of pn2_LP rfl (leK rfl) (te_LP_hasColor ha1 h ⟨Nat.le_of_eq (Nat.zero_add _), Nat.le_of_eq (Nat.zero_add _)⟩)
def lb2_LP_close_8 (c0 : Nat) (a1 : Int) (c2 : Nat) (go : LZ → Option ((LZ) × Nat × Nat))  (S : St) (L : List PC) : Option ((LZ) × Nat × Nat) := if isK L c2 14 = true then (bnO (gn_Itr_hasNext c2 S L) fun p6 => if p6 = true then (if isK L c2 14 = true then (bnO (gn_Itr_next c2 S L) fun p9 => adC p9.2.1 p9.2.2 (rfB p9.1.1 fun r11 => if isK p9.1.2.2 r11 11 = true then (bnO (gfI p9.1.2.2 r11 11 4) fun v13 => bnO (gfI p9.1.2.2 c0 12 2) fun v14 => if v13 ≤ v14 then (go (p9.1.2.1, p9.1.2.2)) else (if isK p9.1.2.2 c0 12 = true then (bnO (gn_LP_touches c0 r11 a1 p9.1.2.1 p9.1.2.2) fun p15 => if p15 = true then (bnO (pf p9.1.2.2 r11 11 5 (V 0)) fun L18 => go (p9.1.2.1, L18)) else (go (p9.1.2.1, p9.1.2.2))) else none)) else none)) else none) else (some ((S, L), 0, 0))) else none
def lo2_LP_close_8 (c0 : Nat) (a1 : Int) (c2 : Nat) : Nat → LZ → Option ((LZ) × Nat × Nat) := lp fun go p => lb2_LP_close_8 c0 a1 c2 go p.1 p.2
theorem tl2_LP_close_8 {sc : SC} {c0 : Nat} {a1 : Int} (ha1 : inR a1) {c2 : Nat} {K : Option Value → List PC → Prop} {mc ms kt nt : Nat} (hkt : kt ≤ mc) (hnt : nt ≤ ms) : ∀ (N : Nat) (a : LZ) (q : (LZ) × Nat × Nat), lo2_LP_close_8 c0 a1 c2 N a = some q → ∀ k n, Bd k n kt nt q → (GX sc M_LP_close mc ms 55 [(0, .ref c0), (1, V a1)] [] (wz q.1) kt nt K) → GX sc M_LP_close mc ms 8 [(0, .ref c0), (1, V a1), (2, .ref c2)] [] (wz a) k n K := by
  refine lp_ind2 (P := fun (a : LZ) (q : (LZ) × Nat × Nat) => ∀ k n, Bd k n kt nt q → (GX sc M_LP_close mc ms 55 [(0, .ref c0), (1, V a1)] [] (wz q.1) kt nt K) → GX sc M_LP_close mc ms 8 [(0, .ref c0), (1, V a1), (2, .ref c2)] [] (wz a) k n K) (fun go ih a q h => ?_)
  obtain ⟨S, L⟩ := a
  intro k n hb hx
  show GX sc M_LP_close mc ms 8 [(0, .ref c0), (1, V a1), (2, .ref c2)] [] (wz (S, L)) k n K
  replace h : lb2_LP_close_8 c0 a1 c2 go S L = some q := h
  unfold lb2_LP_close_8 at h
  refine x_aloadn (pc := 8) (i0 := 2) (j := 2) (dK D_LP_close_0 4 rfl) rfl rfl ?_
  refine gdE h ?_
  clear h
  intro hk7 h
  refine bnE h ?_
  clear h
  intro p6 e_p6 h
  refine x_callF (pc := 9) (As := []) (rest := []) (mc' := 0) (ms' := 0) (dK D_LP_close_0 5 rfl) LE_Itr_hasNext (List.mem_of_getElem? (i := 0) rfl) q_839 q_843 q_845 rfl q_820 (fitK rfl) (isK_at (Z := (S, L)) (ci := 14) hk7) rfl (leK rfl) (Nat.le_trans (bdk hb) hkt) (Nat.le_trans (bdn hb) hnt) (tg_Itr_hasNext  e_p6) (kxB' ?_)
  refine wx_ifB_eq (pc := 14) (b := p6) (t := 55) (dK D_LP_close_0 6 rfl) rfl (fun hc8 => ?_) (fun hc8 => ?_)
  · replace h := ifP h hc8
    refine x_aloadn (pc := 17) (i0 := 2) (j := 2) (dK D_LP_close_0 7 rfl) rfl rfl ?_
    refine gdE h ?_
    clear h
    intro hk10 h
    refine bnE h ?_
    clear h
    intro p9 e_p9 h
    obtain ⟨yp9, h9, e9⟩ := adE2 h
    clear h
    subst e9
    have h := h9
    clear h9
    have hk1 := Nat.le_trans (bd1 hb) hkt
    have hn1 := Nat.le_trans (bd2 hb) hnt
    replace hb := bdA hb
    refine x_callF (pc := 18) (As := []) (rest := []) (mc' := p9.2.1) (ms' := p9.2.2) (dK D_LP_close_0 8 rfl) LE_Itr_next (List.mem_of_getElem? (i := 1) rfl) q_849 q_852 q_854 rfl q_820 (fitK rfl) (isK_at (Z := (S, L)) (ci := 14) hk10) rfl (leK rfl) hk1 hn1 (tg_Itr_next  e_p9) (kxR (fun h_p9 => ?_))
    refine rfE h ?_
    clear h
    intro r11 e_r11 h
    rw [e_r11]
    refine gdE h ?_
    clear h
    intro hk12 h
    refine x_cast (pc := 23) (dK D_LP_close_0 9 rfl) q_861 (isK_at (Z := (p9.1.2.1, p9.1.2.2)) (ci := 11) hk12) ?_
    refine x_astoren (pc := 26) (i0 := 3) (ls2 := [(3, .ref r11), (0, .ref c0), (1, V a1), (2, .ref c2)]) (dK D_LP_close_0 10 rfl) rfl (ltK rfl) rfl ?_
    refine x_aloadn (pc := 27) (i0 := 3) (j := 0) (dK D_LP_close_0 11 rfl) rfl rfl ?_
    refine bnE h ?_
    clear h
    intro v13 e_v13 h
    refine wx_getI (pc := 28) (ci := 11) (f := 4) e_v13 (dK D_LP_close_0 12 rfl) q_886 (ltK rfl) (ltK rfl) ?_
    refine x_aloadn (pc := 31) (i0 := 0) (j := 1) (dK D_LP_close_0 13 rfl) rfl rfl ?_
    refine bnE h ?_
    clear h
    intro v14 e_v14 h
    refine wx_getI (pc := 32) (ci := 12) (f := 2) e_v14 (dK D_LP_close_0 14 rfl) q_771 (ltK rfl) (ltK rfl) ?_
    refine wx_icmp_le (pc := 35) (t := 52) (dK D_LP_close_0 15 rfl) rfl (vI_at e_v13).2 (vI_at e_v14).2 (fun hc19 => ?_) (fun hc19 => ?_)
    · replace h := ifP h hc19
      refine x_goto (pc := 52) (tgt := 8) (dK D_LP_close_0 24 rfl) rfl ?_
      refine x_weak (ls' := [(0, .ref c0), (1, V a1), (2, .ref c2)]) (sbc 1 rfl (sbc 2 rfl (sbc 3 rfl sbn))) ?_
      replace h := ih _ _ h
      exact h _ _ hb hx
    · replace h := ifN h hc19
      refine x_aloadn (pc := 38) (i0 := 0) (j := 1) (dK D_LP_close_0 16 rfl) rfl rfl ?_
      refine x_aloadn (pc := 39) (i0 := 3) (j := 0) (dK D_LP_close_0 17 rfl) rfl rfl ?_
      refine x_iloadn (pc := 40) (i0 := 1) (j := 2) (dK D_LP_close_0 18 rfl) rfl rfl ?_
      refine gdE h ?_
      clear h
      intro hk16 h
      refine bnE h ?_
      clear h
      intro p15 e_p15 h
      refine x_callX (pc := 41) (As := [.ref r11, V a1]) (rest := []) (mc' := 0) (ms' := 0) (dK D_LP_close_0 19 rfl) Q_LP_137 sx_LP_touches (fitK rfl) (isK_at (Z := (p9.1.2.1, p9.1.2.2)) (ci := 12) hk16) rfl (leK rfl) (Nat.le_trans (bdk hb) hkt) (Nat.le_trans (bdn hb) hnt) (tg_LP_touches ha1 e_p15) (kxB' ?_)
      refine wx_ifB_eq (pc := 44) (b := p15) (t := 52) (dK D_LP_close_0 20 rfl) rfl (fun hc17 => ?_) (fun hc17 => ?_)
      · replace h := ifP h hc17
        refine x_aloadn (pc := 47) (i0 := 3) (j := 0) (dK D_LP_close_0 21 rfl) rfl rfl ?_
        refine wx_iconst (pc := 48) (dK D_LP_close_0 22 rfl) ?_
        refine bnE h ?_
        clear h
        intro L18 e_L18 h
        refine wx_put (Z := (p9.1.2.1, p9.1.2.2)) (pc := 49) (ci := 11) (f := 5) e_L18 (dK D_LP_close_0 23 rfl) q_888 (ltK rfl) (ltK rfl) rfl okInt ?_
        refine x_goto (pc := 52) (tgt := 8) (dK D_LP_close_0 24 rfl) rfl ?_
        refine x_weak (ls' := [(0, .ref c0), (1, V a1), (2, .ref c2)]) (sbc 1 rfl (sbc 2 rfl (sbc 3 rfl sbn))) ?_
        replace h := ih _ _ h
        exact h _ _ hb hx
      · replace h := ifN h hc17
        refine x_goto (pc := 52) (tgt := 8) (dK D_LP_close_0 24 rfl) rfl ?_
        refine x_weak (ls' := [(0, .ref c0), (1, V a1), (2, .ref c2)]) (sbc 1 rfl (sbc 2 rfl (sbc 3 rfl sbn))) ?_
        replace h := ih _ _ h
        exact h _ _ hb hx
  · replace h := ifN h hc8
    obtain rfl := Option.some.inj h
    refine x_weak (ls' := [(0, .ref c0), (1, V a1)]) (sbc 0 rfl (sbc 1 rfl sbn)) ?_
    refine x_room (bdk hb) (bdn hb) ?_
    exact hx 
def lb2_LP_close_171 (c0 : Nat) (a1 : Int) (a2 : Int) (c3 : Nat) (c5 : Nat) (c6 : Nat) (go : LZ → Option ((LZ) × Nat × Nat))  (S : St) (L : List PC) : Option ((LZ) × Nat × Nat) := if isK L c6 14 = true then (bnO (gn_Itr_hasNext c6 S L) fun p60 => if p60 = true then (if isK L c6 14 = true then (bnO (gn_Itr_next c6 S L) fun p63 => adC p63.2.1 p63.2.2 (rfB p63.1.1 fun r65 => if isK p63.1.2.2 r65 11 = true then (bnO (gfI p63.1.2.2 r65 11 5) fun v67 => if 0 < v67 then (go (p63.1.2.1, p63.1.2.2)) else (bnO (gfI p63.1.2.2 r65 11 0) fun v68 => bnO (gfI p63.1.2.2 c5 11 0) fun v69 => if v68 = v69 then (bnO (pf p63.1.2.2 r65 11 5 (V a2)) fun L70 => some ((p63.1.2.1, L70), 0, 0)) else (go (p63.1.2.1, p63.1.2.2)))) else none)) else none) else (some ((S, L), 0, 0))) else none
def lo2_LP_close_171 (c0 : Nat) (a1 : Int) (a2 : Int) (c3 : Nat) (c5 : Nat) (c6 : Nat) : Nat → LZ → Option ((LZ) × Nat × Nat) := lp fun go p => lb2_LP_close_171 c0 a1 a2 c3 c5 c6 go p.1 p.2
theorem tl2_LP_close_171 {sc : SC} {c0 : Nat} {a1 : Int} (ha1 : inR a1) {a2 : Int} (ha2 : inR a2) {c3 : Nat} {c5 : Nat} {c6 : Nat} {K : Option Value → List PC → Prop} {mc ms kt nt : Nat} (hkt : kt ≤ mc) (hnt : nt ≤ ms) : ∀ (N : Nat) (a : LZ) (q : (LZ) × Nat × Nat), lo2_LP_close_171 c0 a1 a2 c3 c5 c6 N a = some q → ∀ k n, Bd k n kt nt q → (GX sc M_LP_close mc ms 226 [(0, .ref c0), (1, V a1), (2, V a2), (3, .ref c3)] [] (wz q.1) kt nt K) → GX sc M_LP_close mc ms 171 [(0, .ref c0), (1, V a1), (2, V a2), (3, .ref c3), (5, .ref c5), (6, .ref c6)] [] (wz a) k n K := by
  refine lp_ind2 (P := fun (a : LZ) (q : (LZ) × Nat × Nat) => ∀ k n, Bd k n kt nt q → (GX sc M_LP_close mc ms 226 [(0, .ref c0), (1, V a1), (2, V a2), (3, .ref c3)] [] (wz q.1) kt nt K) → GX sc M_LP_close mc ms 171 [(0, .ref c0), (1, V a1), (2, V a2), (3, .ref c3), (5, .ref c5), (6, .ref c6)] [] (wz a) k n K) (fun go ih a q h => ?_)
  obtain ⟨S, L⟩ := a
  intro k n hb hx
  show GX sc M_LP_close mc ms 171 [(0, .ref c0), (1, V a1), (2, V a2), (3, .ref c3), (5, .ref c5), (6, .ref c6)] [] (wz (S, L)) k n K
  replace h : lb2_LP_close_171 c0 a1 a2 c3 c5 c6 go S L = some q := h
  unfold lb2_LP_close_171 at h
  refine x_aload (pc := 171) (j := 5) (dK D_LP_close_1 28 rfl) rfl ?_
  refine gdE h ?_
  clear h
  intro hk61 h
  refine bnE h ?_
  clear h
  intro p60 e_p60 h
  refine x_callF (pc := 173) (As := []) (rest := []) (mc' := 0) (ms' := 0) (dK D_LP_close_1 29 rfl) LE_Itr_hasNext (List.mem_of_getElem? (i := 0) rfl) q_839 q_843 q_845 rfl q_820 (fitK rfl) (isK_at (Z := (S, L)) (ci := 14) hk61) rfl (leK rfl) (Nat.le_trans (bdk hb) hkt) (Nat.le_trans (bdn hb) hnt) (tg_Itr_hasNext  e_p60) (kxB' ?_)
  refine wx_ifB_eq (pc := 178) (b := p60) (t := 226) (dK D_LP_close_1 30 rfl) rfl (fun hc62 => ?_) (fun hc62 => ?_)
  · replace h := ifP h hc62
    refine x_aload (pc := 181) (j := 5) (dK D_LP_close_1 31 rfl) rfl ?_
    refine gdE h ?_
    clear h
    intro hk64 h
    refine bnE h ?_
    clear h
    intro p63 e_p63 h
    obtain ⟨yp63, h9, e9⟩ := adE2 h
    clear h
    subst e9
    have h := h9
    clear h9
    have hk1 := Nat.le_trans (bd1 hb) hkt
    have hn1 := Nat.le_trans (bd2 hb) hnt
    replace hb := bdA hb
    refine x_callF (pc := 183) (As := []) (rest := []) (mc' := p63.2.1) (ms' := p63.2.2) (dK D_LP_close_1 32 rfl) LE_Itr_next (List.mem_of_getElem? (i := 1) rfl) q_849 q_852 q_854 rfl q_820 (fitK rfl) (isK_at (Z := (S, L)) (ci := 14) hk64) rfl (leK rfl) hk1 hn1 (tg_Itr_next  e_p63) (kxR (fun h_p63 => ?_))
    refine rfE h ?_
    clear h
    intro r65 e_r65 h
    rw [e_r65]
    refine gdE h ?_
    clear h
    intro hk66 h
    refine x_cast (pc := 188) (dK D_LP_close_1 33 rfl) q_861 (isK_at (Z := (p63.1.2.1, p63.1.2.2)) (ci := 11) hk66) ?_
    refine x_astore (pc := 191) (ls2 := [(7, .ref r65), (0, .ref c0), (1, V a1), (2, V a2), (3, .ref c3), (5, .ref c5), (6, .ref c6)]) (dK D_LP_close_1 34 rfl) (ltK rfl) rfl ?_
    refine x_aload (pc := 193) (j := 0) (dK D_LP_close_1 35 rfl) rfl ?_
    refine bnE h ?_
    clear h
    intro v67 e_v67 h
    refine wx_getI (pc := 195) (ci := 11) (f := 5) e_v67 (dK D_LP_close_1 36 rfl) q_888 (ltK rfl) (ltK rfl) ?_
    refine wx_if_gt (pc := 198) (t := 171) (dK D_LP_close_1 37 rfl) rfl (vI_at e_v67).2 (fun hc72 => ?_) (fun hc72 => ?_)
    · replace h := ifP h hc72
      refine x_weak (ls' := [(0, .ref c0), (1, V a1), (2, V a2), (3, .ref c3), (5, .ref c5), (6, .ref c6)]) (sbc 1 rfl (sbc 2 rfl (sbc 3 rfl (sbc 4 rfl (sbc 5 rfl (sbc 6 rfl sbn)))))) ?_
      replace h := ih _ _ h
      exact h _ _ hb hx
    · replace h := ifN h hc72
      refine x_aload (pc := 201) (j := 0) (dK D_LP_close_1 38 rfl) rfl ?_
      refine bnE h ?_
      clear h
      intro v68 e_v68 h
      refine wx_getI (pc := 203) (ci := 11) (f := 0) e_v68 (dK D_LP_close_1 39 rfl) q_873 (ltK rfl) (ltK rfl) ?_
      refine x_aload (pc := 206) (j := 5) (dK D_LP_close_1 40 rfl) rfl ?_
      refine bnE h ?_
      clear h
      intro v69 e_v69 h
      refine wx_getI (pc := 208) (ci := 11) (f := 0) e_v69 (dK D_LP_close_1 41 rfl) q_873 (ltK rfl) (ltK rfl) ?_
      refine wx_icmp_eq (pc := 211) (t := 217) (dK D_LP_close_1 42 rfl) rfl (vI_at e_v68).2 (vI_at e_v69).2 (fun hc71 => ?_) (fun hc71 => ?_)
      · replace h := ifP h hc71
        refine x_aload (pc := 217) (j := 0) (dK D_LP_close_1 44 rfl) rfl ?_
        refine x_iloadn (pc := 219) (i0 := 2) (j := 3) (dK D_LP_close_1 45 rfl) rfl rfl ?_
        refine bnE h ?_
        clear h
        intro L70 e_L70 h
        refine wx_put (Z := (p63.1.2.1, p63.1.2.2)) (pc := 220) (ci := 11) (f := 5) e_L70 (dK D_LP_close_1 46 rfl) q_888 (ltK rfl) (ltK rfl) rfl okInt ?_
        refine x_goto (pc := 223) (tgt := 226) (dK D_LP_close_1 47 rfl) rfl ?_
        obtain rfl := Option.some.inj h
        refine x_weak (ls' := [(0, .ref c0), (1, V a1), (2, V a2), (3, .ref c3)]) (sbc 1 rfl (sbc 2 rfl (sbc 3 rfl (sbc 4 rfl sbn)))) ?_
        refine x_room (bdk hb) (bdn hb) ?_
        exact hx 
      · replace h := ifN h hc71
        refine x_goto (pc := 214) (tgt := 171) (dK D_LP_close_1 43 rfl) rfl ?_
        refine x_weak (ls' := [(0, .ref c0), (1, V a1), (2, V a2), (3, .ref c3), (5, .ref c5), (6, .ref c6)]) (sbc 1 rfl (sbc 2 rfl (sbc 3 rfl (sbc 4 rfl (sbc 5 rfl (sbc 6 rfl sbn)))))) ?_
        replace h := ih _ _ h
        exact h _ _ hb hx
  · replace h := ifN h hc62
    obtain rfl := Option.some.inj h
    refine x_weak (ls' := [(0, .ref c0), (1, V a1), (2, V a2), (3, .ref c3)]) (sbc 0 rfl (sbc 1 rfl (sbc 2 rfl (sbc 3 rfl sbn)))) ?_
    refine x_room (bdk hb) (bdn hb) ?_
    exact hx 
def lb2_LP_close_90 (c0 : Nat) (a1 : Int) (a2 : Int) (c3 : Nat) (go : LZ → Option ((LZ) × Nat × Nat))  (S : St) (L : List PC) : Option ((LZ) × Nat × Nat) := if isK L c3 14 = true then (bnO (gn_Itr_hasNext c3 S L) fun p33 => if p33 = true then (if isK L c3 14 = true then (bnO (gn_Itr_next c3 S L) fun p36 => adC p36.2.1 p36.2.2 (rfB p36.1.1 fun r38 => if isK p36.1.2.2 r38 17 = true then (if isK p36.1.2.2 r38 17 = true then (bnO (gn_Integer_intValue r38 p36.1.2.1 p36.1.2.2) fun p40 => bnO (gfV p36.1.2.2 c0 12 4) fun v42 => rfB v42 fun r43 => if isK p36.1.2.2 r43 13 = true then (bnO (gn_AL_get r43 p40 p36.1.2.1 p36.1.2.2) fun p44 => rfB p44 fun r46 => if isK p36.1.2.2 r46 11 = true then (bnO (gfI p36.1.2.2 r46 11 4) fun v48 => bnO (gfI p36.1.2.2 c0 12 2) fun v49 => if v49 < v48 then (bnO (pf p36.1.2.2 r46 11 5 (V 0)) fun L50 => bnO (gfI L50 c0 12 3) fun v51 => bnO (gfI L50 r46 11 3) fun v52 => nm (wr (v51 + v52)) fun v53 => bnO (pf L50 c0 12 3 (V v53)) fun L54 => bnO (gfV L54 c0 12 6) fun v55 => rfB v55 fun r56 => if isK L54 r56 13 = true then (bnO (gn_AL_iterator r56 p36.1.2.1 L54) fun p57 => adC p57.2.1 p57.2.2 (rfB p57.1.1 fun r59 => bnO (lo2_LP_close_171 c0 a1 a2 c3 r46 r59 FU (p57.1.2.1, p57.1.2.2)) fun p73 => adC p73.2.1 p73.2.2 (go (p73.1.1, p73.1.2)))) else none) else (go (p36.1.2.1, p36.1.2.2))) else none) else none) else none) else none)) else none) else (some ((S, L), 0, 0))) else none
def lo2_LP_close_90 (c0 : Nat) (a1 : Int) (a2 : Int) (c3 : Nat) : Nat → LZ → Option ((LZ) × Nat × Nat) := lp fun go p => lb2_LP_close_90 c0 a1 a2 c3 go p.1 p.2
theorem tl2_LP_close_90 {sc : SC} {c0 : Nat} {a1 : Int} (ha1 : inR a1) {a2 : Int} (ha2 : inR a2) {c3 : Nat} {K : Option Value → List PC → Prop} {mc ms kt nt : Nat} (hkt : kt ≤ mc) (hnt : nt ≤ ms) : ∀ (N : Nat) (a : LZ) (q : (LZ) × Nat × Nat), lo2_LP_close_90 c0 a1 a2 c3 N a = some q → ∀ k n, Bd k n kt nt q → (GX sc M_LP_close mc ms 229 [(0, .ref c0), (1, V a1), (2, V a2)] [] (wz q.1) kt nt K) → GX sc M_LP_close mc ms 90 [(0, .ref c0), (1, V a1), (2, V a2), (3, .ref c3)] [] (wz a) k n K := by
  refine lp_ind2 (P := fun (a : LZ) (q : (LZ) × Nat × Nat) => ∀ k n, Bd k n kt nt q → (GX sc M_LP_close mc ms 229 [(0, .ref c0), (1, V a1), (2, V a2)] [] (wz q.1) kt nt K) → GX sc M_LP_close mc ms 90 [(0, .ref c0), (1, V a1), (2, V a2), (3, .ref c3)] [] (wz a) k n K) (fun go ih a q h => ?_)
  obtain ⟨S, L⟩ := a
  intro k n hb hx
  show GX sc M_LP_close mc ms 90 [(0, .ref c0), (1, V a1), (2, V a2), (3, .ref c3)] [] (wz (S, L)) k n K
  replace h : lb2_LP_close_90 c0 a1 a2 c3 go S L = some q := h
  unfold lb2_LP_close_90 at h
  refine x_aloadn (pc := 90) (i0 := 3) (j := 3) (dK D_LP_close_0 44 rfl) rfl rfl ?_
  refine gdE h ?_
  clear h
  intro hk34 h
  refine bnE h ?_
  clear h
  intro p33 e_p33 h
  refine x_callF (pc := 91) (As := []) (rest := []) (mc' := 0) (ms' := 0) (dK D_LP_close_0 45 rfl) LE_Itr_hasNext (List.mem_of_getElem? (i := 0) rfl) q_839 q_843 q_845 rfl q_820 (fitK rfl) (isK_at (Z := (S, L)) (ci := 14) hk34) rfl (leK rfl) (Nat.le_trans (bdk hb) hkt) (Nat.le_trans (bdn hb) hnt) (tg_Itr_hasNext  e_p33) (kxB' ?_)
  refine wx_ifB_eq (pc := 96) (b := p33) (t := 229) (dK D_LP_close_0 46 rfl) rfl (fun hc35 => ?_) (fun hc35 => ?_)
  · replace h := ifP h hc35
    refine x_aloadn (pc := 99) (i0 := 3) (j := 3) (dK D_LP_close_0 47 rfl) rfl rfl ?_
    refine gdE h ?_
    clear h
    intro hk37 h
    refine bnE h ?_
    clear h
    intro p36 e_p36 h
    obtain ⟨yp36, h9, e9⟩ := adE2 h
    clear h
    subst e9
    have h := h9
    clear h9
    have hk1 := Nat.le_trans (bd1 hb) hkt
    have hn1 := Nat.le_trans (bd2 hb) hnt
    replace hb := bdA hb
    refine x_callF (pc := 100) (As := []) (rest := []) (mc' := p36.2.1) (ms' := p36.2.2) (dK D_LP_close_0 48 rfl) LE_Itr_next (List.mem_of_getElem? (i := 1) rfl) q_849 q_852 q_854 rfl q_820 (fitK rfl) (isK_at (Z := (S, L)) (ci := 14) hk37) rfl (leK rfl) hk1 hn1 (tg_Itr_next  e_p36) (kxR (fun h_p36 => ?_))
    refine rfE h ?_
    clear h
    intro r38 e_r38 h
    rw [e_r38]
    refine gdE h ?_
    clear h
    intro hk39 h
    refine x_cast (pc := 105) (dK D_LP_close_0 49 rfl) q_1605 (isK_at (Z := (p36.1.2.1, p36.1.2.2)) (ci := 17) hk39) ?_
    refine gdE h ?_
    clear h
    intro hk41 h
    refine bnE h ?_
    clear h
    intro p40 e_p40 h
    refine x_callX (pc := 108) (As := []) (rest := []) (mc' := 0) (ms' := 0) (dK D_LP_close_1 0 rfl) Q_LP_150 sx_Integer_intValue (fitK rfl) (isK_at (Z := (p36.1.2.1, p36.1.2.2)) (ci := 17) hk41) rfl (leK rfl) (Nat.le_trans (bdk hb) hkt) (Nat.le_trans (bdn hb) hnt) (tg_Integer_intValue  e_p40) (kxI' (fun h_p40 => ?_))
    refine x_istore (pc := 111) (ls2 := [(4, V p40), (0, .ref c0), (1, V a1), (2, V a2), (3, .ref c3)]) (dK D_LP_close_1 1 rfl) (ltK rfl) rfl ?_
    refine x_aloadn (pc := 113) (i0 := 0) (j := 1) (dK D_LP_close_1 2 rfl) rfl rfl ?_
    refine bnE h ?_
    clear h
    intro v42 e_v42 h
    refine wx_getV (pc := 114) (ci := 12) (f := 4) e_v42 (dK D_LP_close_1 3 rfl) q_775 (ltK rfl) (ltK rfl) (fun hv42 => ?_)
    refine x_iload (pc := 117) (j := 0) (dK D_LP_close_1 4 rfl) rfl ?_
    refine rfE h ?_
    clear h
    intro r43 e_r43 h
    rw [e_r43]
    refine gdE h ?_
    clear h
    intro hk45 h
    refine bnE h ?_
    clear h
    intro p44 e_p44 h
    refine x_callX (pc := 119) (As := [V p40]) (rest := []) (mc' := 0) (ms' := 0) (dK D_LP_close_1 5 rfl) Q_LP_87 sx_AL_get (fitK rfl) (isK_at (Z := (p36.1.2.1, p36.1.2.2)) (ci := 13) hk45) rfl (leK rfl) (Nat.le_trans (bdk hb) hkt) (Nat.le_trans (bdn hb) hnt) (tg_AL_get h_p40 e_p44) (kxR (fun h_p44 => ?_))
    refine rfE h ?_
    clear h
    intro r46 e_r46 h
    rw [e_r46]
    refine gdE h ?_
    clear h
    intro hk47 h
    refine x_cast (pc := 122) (dK D_LP_close_1 6 rfl) q_861 (isK_at (Z := (p36.1.2.1, p36.1.2.2)) (ci := 11) hk47) ?_
    refine x_astore (pc := 125) (ls2 := [(5, .ref r46), (4, V p40), (0, .ref c0), (1, V a1), (2, V a2), (3, .ref c3)]) (dK D_LP_close_1 7 rfl) (ltK rfl) rfl ?_
    refine x_aload (pc := 127) (j := 0) (dK D_LP_close_1 8 rfl) rfl ?_
    refine bnE h ?_
    clear h
    intro v48 e_v48 h
    refine wx_getI (pc := 129) (ci := 11) (f := 4) e_v48 (dK D_LP_close_1 9 rfl) q_886 (ltK rfl) (ltK rfl) ?_
    refine x_aloadn (pc := 132) (i0 := 0) (j := 2) (dK D_LP_close_1 10 rfl) rfl rfl ?_
    refine bnE h ?_
    clear h
    intro v49 e_v49 h
    refine wx_getI (pc := 133) (ci := 12) (f := 2) e_v49 (dK D_LP_close_1 11 rfl) q_771 (ltK rfl) (ltK rfl) ?_
    refine wx_icmp_gt (pc := 136) (t := 142) (dK D_LP_close_1 12 rfl) rfl (vI_at e_v48).2 (vI_at e_v49).2 (fun hc74 => ?_) (fun hc74 => ?_)
    · replace h := ifP h hc74
      refine x_aload (pc := 142) (j := 0) (dK D_LP_close_1 14 rfl) rfl ?_
      refine wx_iconst (pc := 144) (dK D_LP_close_1 15 rfl) ?_
      refine bnE h ?_
      clear h
      intro L50 e_L50 h
      refine wx_put (Z := (p36.1.2.1, p36.1.2.2)) (pc := 145) (ci := 11) (f := 5) e_L50 (dK D_LP_close_1 16 rfl) q_888 (ltK rfl) (ltK rfl) rfl okInt ?_
      refine x_aloadn (pc := 148) (i0 := 0) (j := 2) (dK D_LP_close_1 17 rfl) rfl rfl ?_
      refine x_dup (pc := 149) (dK D_LP_close_1 18 rfl) rfl ?_
      refine bnE h ?_
      clear h
      intro v51 e_v51 h
      refine wx_getI (pc := 150) (ci := 12) (f := 3) e_v51 (dK D_LP_close_1 19 rfl) q_773 (ltK rfl) (ltK rfl) ?_
      refine x_aload (pc := 153) (j := 0) (dK D_LP_close_1 20 rfl) rfl ?_
      refine bnE h ?_
      clear h
      intro v52 e_v52 h
      refine wx_getI (pc := 155) (ci := 11) (f := 3) e_v52 (dK D_LP_close_1 21 rfl) q_883 (ltK rfl) (ltK rfl) ?_
      refine wx_iadd (pc := 158) (dK D_LP_close_1 22 rfl) ?_
      refine nmE h ?_
      clear h
      intro v53 e_v53 h
      refine wtop e_v53 ?_
      refine bnE h ?_
      clear h
      intro L54 e_L54 h
      refine wx_put (Z := (p36.1.2.1, L50)) (pc := 159) (ci := 12) (f := 3) e_L54 (dK D_LP_close_1 23 rfl) q_773 (ltK rfl) (ltK rfl) rfl okInt ?_
      refine x_aloadn (pc := 162) (i0 := 0) (j := 2) (dK D_LP_close_1 24 rfl) rfl rfl ?_
      refine bnE h ?_
      clear h
      intro v55 e_v55 h
      refine wx_getV (pc := 163) (ci := 12) (f := 6) e_v55 (dK D_LP_close_1 25 rfl) q_779 (ltK rfl) (ltK rfl) (fun hv55 => ?_)
      refine rfE h ?_
      clear h
      intro r56 e_r56 h
      rw [e_r56]
      refine gdE h ?_
      clear h
      intro hk58 h
      refine bnE h ?_
      clear h
      intro p57 e_p57 h
      obtain ⟨yp57, h9, e9⟩ := adE2 h
      clear h
      subst e9
      have h := h9
      clear h9
      have hk1 := Nat.le_trans (bd1 hb) hkt
      have hn1 := Nat.le_trans (bd2 hb) hnt
      replace hb := bdA hb
      refine x_callX (pc := 166) (As := []) (rest := []) (mc' := p57.2.1) (ms' := p57.2.2) (dK D_LP_close_1 26 rfl) Q_LP_49 sx_AL_iterator (fitK rfl) (isK_at (Z := (p36.1.2.1, L54)) (ci := 13) hk58) rfl (leK rfl) hk1 hn1 (tg_AL_iterator  e_p57) (kxR (fun h_p57 => ?_))
      refine x_astoreV (pc := 169) (ls2 := [(6, p57.1.1), (5, .ref r46), (4, V p40), (0, .ref c0), (1, V a1), (2, V a2), (3, .ref c3)]) h_p57 (dK D_LP_close_1 27 rfl) (ltK rfl) rfl ?_
      refine rfE h ?_
      clear h
      intro r59 e_r59 h
      rw [e_r59]
      refine bnE h ?_
      clear h
      intro p73 e_p73 h
      obtain ⟨yp73, h9, e9⟩ := adE2 h
      clear h
      subst e9
      have h := h9
      clear h9
      have hk1 := Nat.le_trans (bd1 hb) hkt
      have hn1 := Nat.le_trans (bd2 hb) hnt
      replace hb := bdA hb
      refine x_weak (ls' := [(0, .ref c0), (1, V a1), (2, V a2), (3, .ref c3), (5, .ref r46), (6, .ref r59)]) (sbc 3 rfl (sbc 4 rfl (sbc 5 rfl (sbc 6 rfl (sbc 1 rfl (sbc 0 rfl sbn)))))) ?_
      refine tl2_LP_close_171 ha1 ha2 hk1 hn1 FU _ _ e_p73 _ _ ⟨Nat.le_refl _, Nat.le_refl _⟩  ?_
      refine x_goto (pc := 226) (tgt := 90) (dK D_LP_close_1 48 rfl) rfl ?_
      replace h := ih _ _ h
      exact h _ _ hb hx
    · replace h := ifN h hc74
      refine x_goto (pc := 139) (tgt := 90) (dK D_LP_close_1 13 rfl) rfl ?_
      refine x_weak (ls' := [(0, .ref c0), (1, V a1), (2, V a2), (3, .ref c3)]) (sbc 2 rfl (sbc 3 rfl (sbc 4 rfl (sbc 5 rfl sbn)))) ?_
      replace h := ih _ _ h
      exact h _ _ hb hx
  · replace h := ifN h hc35
    obtain rfl := Option.some.inj h
    refine x_weak (ls' := [(0, .ref c0), (1, V a1), (2, V a2)]) (sbc 0 rfl (sbc 1 rfl (sbc 2 rfl sbn))) ?_
    refine x_room (bdk hb) (bdn hb) ?_
    exact hx 
def lb2_LP_close_57 (c0 : Nat) (a1 : Int) (go : Int × LZ → Option ((LZ) × Nat × Nat)) (a2 : Int) (S : St) (L : List PC) : Option ((LZ) × Nat × Nat) := if isK L c0 12 = true then (bnO (gn_LP_pages c0 S L) fun p21 => if p21 < a2 then (some ((S, L), 0, 0)) else (if isK L c0 12 = true then (bnO (gn_LP_form c0 a2 S L) fun p23 => if p23 = a1 then (bnO (gfV L c0 12 4) fun v25 => rfB v25 fun r26 => if isK L c0 12 = true then (bnO (gn_LP_on c0 r26 a2 S L) fun p27 => adC p27.2.1 p27.2.2 (rfB p27.1.1 fun r29 => if isK p27.1.2.2 r29 13 = true then (bnO (gn_AL_iterator r29 p27.1.2.1 p27.1.2.2) fun p30 => adC p30.2.1 p30.2.2 (rfB p30.1.1 fun r32 => bnO (lo2_LP_close_90 c0 a1 a2 r32 FU (p30.1.2.1, p30.1.2.2)) fun p75 => adC p75.2.1 p75.2.2 (nm (wr (a2 + 1)) fun v76 => go (v76, (p75.1.1, p75.1.2))))) else none)) else none) else (nm (wr (a2 + 1)) fun v77 => go (v77, (S, L)))) else none)) else none
def lo2_LP_close_57 (c0 : Nat) (a1 : Int) : Nat → Int × LZ → Option ((LZ) × Nat × Nat) := lp fun go p => lb2_LP_close_57 c0 a1 go p.1 p.2.1 p.2.2
theorem tl2_LP_close_57 {sc : SC} {c0 : Nat} {a1 : Int} (ha1 : inR a1) {K : Option Value → List PC → Prop} {mc ms kt nt : Nat} (hkt : kt ≤ mc) (hnt : nt ≤ ms) : ∀ (N : Nat) (a : Int × LZ) (q : (LZ) × Nat × Nat), lo2_LP_close_57 c0 a1 N a = some q → ∀ k n, Bd k n kt nt q → inR a.1 → (GX sc M_LP_close mc ms 235 [(0, .ref c0), (1, V a1)] [] (wz q.1) kt nt K) → GX sc M_LP_close mc ms 57 [(0, .ref c0), (1, V a1), (2, V a.1)] [] (wz a.2) k n K := by
  refine lp_ind2 (P := fun (a : Int × LZ) (q : (LZ) × Nat × Nat) => ∀ k n, Bd k n kt nt q → inR a.1 → (GX sc M_LP_close mc ms 235 [(0, .ref c0), (1, V a1)] [] (wz q.1) kt nt K) → GX sc M_LP_close mc ms 57 [(0, .ref c0), (1, V a1), (2, V a.1)] [] (wz a.2) k n K) (fun go ih a q h => ?_)
  obtain ⟨a2, ⟨S, L⟩⟩ := a
  intro k n hb ha2 hx
  show GX sc M_LP_close mc ms 57 [(0, .ref c0), (1, V a1), (2, V a2)] [] (wz (S, L)) k n K
  replace h : lb2_LP_close_57 c0 a1 go a2 S L = some q := h
  unfold lb2_LP_close_57 at h
  refine x_iloadn (pc := 57) (i0 := 2) (j := 2) (dK D_LP_close_0 27 rfl) rfl rfl ?_
  refine x_aloadn (pc := 58) (i0 := 0) (j := 0) (dK D_LP_close_0 28 rfl) rfl rfl ?_
  refine gdE h ?_
  clear h
  intro hk22 h
  refine bnE h ?_
  clear h
  intro p21 e_p21 h
  refine x_callX (pc := 59) (As := []) (rest := [V a2]) (mc' := 0) (ms' := 0) (dK D_LP_close_0 29 rfl) Q_LP_111 sx_LP_pages (fitK rfl) (isK_at (Z := (S, L)) (ci := 12) hk22) rfl (leK rfl) (Nat.le_trans (bdk hb) hkt) (Nat.le_trans (bdn hb) hnt) (tg_LP_pages  e_p21) (kxI' (fun h_p21 => ?_))
  refine wx_icmp_gt (pc := 62) (t := 235) (dK D_LP_close_0 30 rfl) rfl ha2 h_p21 (fun hc79 => ?_) (fun hc79 => ?_)
  · replace h := ifP h hc79
    obtain rfl := Option.some.inj h
    refine x_weak (ls' := [(0, .ref c0), (1, V a1)]) (sbc 0 rfl (sbc 1 rfl sbn)) ?_
    refine x_room (bdk hb) (bdn hb) ?_
    exact hx 
  · replace h := ifN h hc79
    refine x_aloadn (pc := 65) (i0 := 0) (j := 0) (dK D_LP_close_0 31 rfl) rfl rfl ?_
    refine x_iloadn (pc := 66) (i0 := 2) (j := 2) (dK D_LP_close_0 32 rfl) rfl rfl ?_
    refine gdE h ?_
    clear h
    intro hk24 h
    refine bnE h ?_
    clear h
    intro p23 e_p23 h
    refine x_callX (pc := 67) (As := [V a2]) (rest := []) (mc' := 0) (ms' := 0) (dK D_LP_close_0 33 rfl) Q_LP_79 sx_LP_form (fitK rfl) (isK_at (Z := (S, L)) (ci := 12) hk24) rfl (leK rfl) (Nat.le_trans (bdk hb) hkt) (Nat.le_trans (bdn hb) hnt) (tg_LP_form ha2 e_p23) (kxI' (fun h_p23 => ?_))
    refine x_iloadn (pc := 70) (i0 := 1) (j := 1) (dK D_LP_close_0 34 rfl) rfl rfl ?_
    refine wx_icmp_eq (pc := 71) (t := 77) (dK D_LP_close_0 35 rfl) rfl h_p23 ha1 (fun hc78 => ?_) (fun hc78 => ?_)
    · replace h := ifP h hc78
      refine x_aloadn (pc := 77) (i0 := 0) (j := 0) (dK D_LP_close_0 37 rfl) rfl rfl ?_
      refine x_aloadn (pc := 78) (i0 := 0) (j := 0) (dK D_LP_close_0 38 rfl) rfl rfl ?_
      refine bnE h ?_
      clear h
      intro v25 e_v25 h
      refine wx_getV (pc := 79) (ci := 12) (f := 4) e_v25 (dK D_LP_close_0 39 rfl) q_775 (ltK rfl) (ltK rfl) (fun hv25 => ?_)
      refine x_iloadn (pc := 82) (i0 := 2) (j := 2) (dK D_LP_close_0 40 rfl) rfl rfl ?_
      refine rfE h ?_
      clear h
      intro r26 e_r26 h
      rw [e_r26]
      refine gdE h ?_
      clear h
      intro hk28 h
      refine bnE h ?_
      clear h
      intro p27 e_p27 h
      obtain ⟨yp27, h9, e9⟩ := adE2 h
      clear h
      subst e9
      have h := h9
      clear h9
      have hk1 := Nat.le_trans (bd1 hb) hkt
      have hn1 := Nat.le_trans (bd2 hb) hnt
      replace hb := bdA hb
      refine x_callX (pc := 83) (As := [.ref r26, V a2]) (rest := []) (mc' := p27.2.1) (ms' := p27.2.2) (dK D_LP_close_0 41 rfl) Q_LP_146 sx_LP_on (fitK rfl) (isK_at (Z := (S, L)) (ci := 12) hk28) rfl (leK rfl) hk1 hn1 (tg_LP_on ha2 e_p27) (kxR (fun h_p27 => ?_))
      refine rfE h ?_
      clear h
      intro r29 e_r29 h
      rw [e_r29]
      refine gdE h ?_
      clear h
      intro hk31 h
      refine bnE h ?_
      clear h
      intro p30 e_p30 h
      obtain ⟨yp30, h9, e9⟩ := adE2 h
      clear h
      subst e9
      have h := h9
      clear h9
      have hk1 := Nat.le_trans (bd1 hb) hkt
      have hn1 := Nat.le_trans (bd2 hb) hnt
      replace hb := bdA hb
      refine x_callX (pc := 86) (As := []) (rest := []) (mc' := p30.2.1) (ms' := p30.2.2) (dK D_LP_close_0 42 rfl) Q_LP_49 sx_AL_iterator (fitK rfl) (isK_at (Z := (p27.1.2.1, p27.1.2.2)) (ci := 13) hk31) rfl (leK rfl) hk1 hn1 (tg_AL_iterator  e_p30) (kxR (fun h_p30 => ?_))
      refine x_astorenV (pc := 89) (i0 := 3) (ls2 := [(3, p30.1.1), (0, .ref c0), (1, V a1), (2, V a2)]) h_p30 (dK D_LP_close_0 43 rfl) rfl (ltK rfl) rfl ?_
      refine rfE h ?_
      clear h
      intro r32 e_r32 h
      rw [e_r32]
      refine bnE h ?_
      clear h
      intro p75 e_p75 h
      obtain ⟨yp75, h9, e9⟩ := adE2 h
      clear h
      subst e9
      have h := h9
      clear h9
      have hk1 := Nat.le_trans (bd1 hb) hkt
      have hn1 := Nat.le_trans (bd2 hb) hnt
      replace hb := bdA hb
      refine x_weak (ls' := [(0, .ref c0), (1, V a1), (2, V a2), (3, .ref r32)]) (sbc 1 rfl (sbc 2 rfl (sbc 3 rfl (sbc 0 rfl sbn)))) ?_
      refine tl2_LP_close_90 ha1 ha2 hk1 hn1 FU _ _ e_p75 _ _ ⟨Nat.le_refl _, Nat.le_refl _⟩  ?_
      refine nmE h ?_
      clear h
      intro v76 e_v76 h
      refine wx_iinc (pc := 229) (j := 2) (a := a2) (z := 1) (ls2 := [(2, V v76), (0, .ref c0), (1, V a1)]) (dK D_LP_close_1 49 rfl) rfl e_v76 (ltK rfl) rfl ?_
      refine x_goto (pc := 232) (tgt := 57) (dK D_LP_close_2 0 rfl) rfl ?_
      refine x_weak (ls' := [(0, .ref c0), (1, V a1), (2, V v76)]) (sbc 1 rfl (sbc 2 rfl (sbc 0 rfl sbn))) ?_
      replace h := ih _ _ h
      exact h _ _ hb (Vn_in e_v76) hx
    · replace h := ifN h hc78
      refine x_goto (pc := 74) (tgt := 229) (dK D_LP_close_0 36 rfl) rfl ?_
      refine nmE h ?_
      clear h
      intro v77 e_v77 h
      refine wx_iinc (pc := 229) (j := 2) (a := a2) (z := 1) (ls2 := [(2, V v77), (0, .ref c0), (1, V a1)]) (dK D_LP_close_1 49 rfl) rfl e_v77 (ltK rfl) rfl ?_
      refine x_goto (pc := 232) (tgt := 57) (dK D_LP_close_2 0 rfl) rfl ?_
      refine x_weak (ls' := [(0, .ref c0), (1, V a1), (2, V v77)]) (sbc 1 rfl (sbc 2 rfl (sbc 0 rfl sbn))) ?_
      replace h := ih _ _ h
      exact h _ _ hb (Vn_in e_v77) hx
def gn_LP_close (c0 : Nat) (a1 : Int) (S : St) (L : List PC) : Option ((LZ) × Nat × Nat) := bnO (gfV L c0 12 5) fun v1 => rfB v1 fun r2 => if isK L r2 13 = true then (bnO (gn_AL_iterator r2 S L) fun p3 => adC p3.2.1 p3.2.2 (rfB p3.1.1 fun r5 => bnO (lo2_LP_close_8 c0 a1 r5 FU (p3.1.2.1, p3.1.2.2)) fun p20 => adC p20.2.1 p20.2.2 (bnO (lo2_LP_close_57 c0 a1 FU (1, (p20.1.1, p20.1.2))) fun p80 => adC p80.2.1 p80.2.2 (bnO (gfV p80.1.2 c0 12 8) fun v81 => rfB v81 fun r82 => bnO (ast p80.1.2 102 r82 a1 (V (i_nz 1))) fun L83 => some ((p80.1.1, L83), 0, 0))))) else none
theorem te_LP_close {sc : SC} {c0 : Nat} {a1 : Int} (ha1 : inR a1) {S : St} {L : List PC} {q : (LZ) × Nat × Nat} (h : gn_LP_close c0 a1 S L = some q) {mc ms k n : Nat} (hb : Bd k n mc ms q) : GX sc M_LP_close mc ms 0 [(0, .ref c0), (1, V a1)] [] (wz (S, L)) k n (KXU q.1) := by
  unfold gn_LP_close at h
  refine x_aloadn (pc := 0) (i0 := 0) (j := 0) (dK D_LP_close_0 0 rfl) rfl rfl ?_
  refine bnE h ?_
  clear h
  intro v1 e_v1 h
  refine wx_getV (pc := 1) (ci := 12) (f := 5) e_v1 (dK D_LP_close_0 1 rfl) q_777 (ltK rfl) (ltK rfl) (fun hv1 => ?_)
  refine rfE h ?_
  clear h
  intro r2 e_r2 h
  rw [e_r2]
  refine gdE h ?_
  clear h
  intro hk4 h
  refine bnE h ?_
  clear h
  intro p3 e_p3 h
  obtain ⟨yp3, h9, e9⟩ := adE2 h
  clear h
  subst e9
  have h := h9
  clear h9
  have hk1 := bd1 hb
  have hn1 := bd2 hb
  replace hb := bdA hb
  refine x_callX (pc := 4) (As := []) (rest := []) (mc' := p3.2.1) (ms' := p3.2.2) (dK D_LP_close_0 2 rfl) Q_LP_49 sx_AL_iterator (fitK rfl) (isK_at (Z := (S, L)) (ci := 13) hk4) rfl (leK rfl) hk1 hn1 (tg_AL_iterator  e_p3) (kxR (fun h_p3 => ?_))
  refine x_astorenV (pc := 7) (i0 := 2) (ls2 := [(2, p3.1.1), (0, .ref c0), (1, V a1)]) h_p3 (dK D_LP_close_0 3 rfl) rfl (ltK rfl) rfl ?_
  refine rfE h ?_
  clear h
  intro r5 e_r5 h
  rw [e_r5]
  refine bnE h ?_
  clear h
  intro p20 e_p20 h
  obtain ⟨yp20, h9, e9⟩ := adE2 h
  clear h
  subst e9
  have h := h9
  clear h9
  have hk1 := bd1 hb
  have hn1 := bd2 hb
  replace hb := bdA hb
  refine x_weak (ls' := [(0, .ref c0), (1, V a1), (2, .ref r5)]) (sbc 1 rfl (sbc 2 rfl (sbc 0 rfl sbn))) ?_
  refine tl2_LP_close_8 ha1 hk1 hn1 FU _ _ e_p20 _ _ ⟨Nat.le_refl _, Nat.le_refl _⟩  ?_
  refine wx_iconst (pc := 55) (dK D_LP_close_0 25 rfl) ?_
  refine x_istoren (pc := 56) (i0 := 2) (ls2 := [(2, V 1), (0, .ref c0), (1, V a1)]) (dK D_LP_close_0 26 rfl) rfl (ltK rfl) rfl ?_
  refine bnE h ?_
  clear h
  intro p80 e_p80 h
  obtain ⟨yp80, h9, e9⟩ := adE2 h
  clear h
  subst e9
  have h := h9
  clear h9
  have hk1 := bd1 hb
  have hn1 := bd2 hb
  replace hb := bdA hb
  refine x_weak (ls' := [(0, .ref c0), (1, V a1), (2, V 1)]) (sbc 1 rfl (sbc 2 rfl (sbc 0 rfl sbn))) ?_
  refine tl2_LP_close_57 ha1 hk1 hn1 FU _ _ e_p80 _ _ ⟨Nat.le_refl _, Nat.le_refl _⟩ (inRk rfl) ?_
  refine x_aloadn (pc := 235) (i0 := 0) (j := 0) (dK D_LP_close_2 1 rfl) rfl rfl ?_
  refine bnE h ?_
  clear h
  intro v81 e_v81 h
  refine wx_getV (pc := 236) (ci := 12) (f := 8) e_v81 (dK D_LP_close_2 2 rfl) q_783 (ltK rfl) (ltK rfl) (fun hv81 => ?_)
  refine x_iloadn (pc := 239) (i0 := 1) (j := 1) (dK D_LP_close_2 3 rfl) rfl rfl ?_
  refine wx_iconst (pc := 240) (dK D_LP_close_2 4 rfl) ?_
  refine rfE h ?_
  clear h
  intro r82 e_r82 h
  rw [e_r82]
  refine bnE h ?_
  clear h
  intro L83 e_L83 h
  refine wx_zast (Z := (p80.1.1, p80.1.2)) (pc := 241) (z := 1) e_L83 ha1 (dK D_LP_close_2 5 rfl) ?_
  obtain rfl := Option.some.inj h
  exact wk_ret (pc := 242) (dK D_LP_close_2 6 rfl) rfl (bdk hb) (bdn hb) ⟨rfl, rfl⟩
theorem tg_LP_close {sc : SC} {c0 : Nat} {a1 : Int} (ha1 : inR a1) {S : St} {L : List PC} {q : (LZ) × Nat × Nat} (h : gn_LP_close c0 a1 S L = some q) : EvX sc M_LP_close [.ref c0, V a1] (wz (S, L)) q.2.1 q.2.2 (KXU q.1) := EvX.of pn2_LP rfl (leK rfl) (te_LP_close ha1 h ⟨Nat.le_of_eq (Nat.zero_add _), Nat.le_of_eq (Nat.zero_add _)⟩)
def lb2_LP_pass_22 (c0 : Nat) (a1 : Int) (a3 : Int) (go : Int × Int × LZ → Option ((Int × LZ) × Nat × Nat)) (a2 : Int) (a4 : Int) (S : St) (L : List PC) : Option ((Int × LZ) × Nat × Nat) := bnO (gfI L c0 12 0) fun v4 => nm (wr (2 * v4)) fun v5 => if v5 ≤ a4 then (some ((a2, (S, L)), 0, 0)) else (bnO (gfV L c0 12 8) fun v6 => rfB v6 fun r7 => bnO (ald L 2 r7 a4) fun v8 => if v8 = 0 then (bnO (gfV L c0 12 9) fun v10 => rfB v10 fun r11 => bnO (ald L 0 r11 a4) fun v12 => bnO (gfI L c0 12 2) fun v13 => if v12 = v13 then (if isK L c0 12 = true then (bnO (gn_LP_close c0 a4 S L) fun p14 => adC p14.2.1 p14.2.2 (nm (wr (a2 + 1)) fun v16 => nm (wr (a4 + 1)) fun v17 => go (v16, v17, (p14.1.1, p14.1.2)))) else none) else (nm (wr (a4 + 1)) fun v18 => go (a2, v18, (S, L)))) else (nm (wr (a4 + 1)) fun v9 => go (a2, v9, (S, L))))
def lo2_LP_pass_22 (c0 : Nat) (a1 : Int) (a3 : Int) : Nat → Int × Int × LZ → Option ((Int × LZ) × Nat × Nat) := lp fun go p => lb2_LP_pass_22 c0 a1 a3 go p.1 p.2.1 p.2.2.1 p.2.2.2
theorem tl2_LP_pass_22 {sc : SC} {c0 : Nat} {a1 : Int} (ha1 : inR a1) {a3 : Int} (ha3 : inR a3) {K : Option Value → List PC → Prop} {mc ms kt nt : Nat} (hkt : kt ≤ mc) (hnt : nt ≤ ms) : ∀ (N : Nat) (a : Int × Int × LZ) (q : (Int × LZ) × Nat × Nat), lo2_LP_pass_22 c0 a1 a3 N a = some q → ∀ k n, Bd k n kt nt q → inR a.1 → inR a.2.1 → (inR q.1.1 → GX sc M_LP_pass mc ms 75 [(0, .ref c0), (1, V a1), (2, V q.1.1), (3, V a3)] [] (wz q.1.2) kt nt K) → GX sc M_LP_pass mc ms 22 [(0, .ref c0), (1, V a1), (2, V a.1), (3, V a3), (4, V a.2.1)] [] (wz a.2.2) k n K := by
  refine lp_ind2 (P := fun (a : Int × Int × LZ) (q : (Int × LZ) × Nat × Nat) => ∀ k n, Bd k n kt nt q → inR a.1 → inR a.2.1 → (inR q.1.1 → GX sc M_LP_pass mc ms 75 [(0, .ref c0), (1, V a1), (2, V q.1.1), (3, V a3)] [] (wz q.1.2) kt nt K) → GX sc M_LP_pass mc ms 22 [(0, .ref c0), (1, V a1), (2, V a.1), (3, V a3), (4, V a.2.1)] [] (wz a.2.2) k n K) (fun go ih a q h => ?_)
  obtain ⟨a2, a4, ⟨S, L⟩⟩ := a
  intro k n hb ha2 ha4 hx
  show GX sc M_LP_pass mc ms 22 [(0, .ref c0), (1, V a1), (2, V a2), (3, V a3), (4, V a4)] [] (wz (S, L)) k n K
  replace h : lb2_LP_pass_22 c0 a1 a3 go a2 a4 S L = some q := h
  unfold lb2_LP_pass_22 at h
  refine x_iload (pc := 22) (j := 4) (dK D_LP_pass 15 rfl) rfl ?_
  refine wx_iconst (pc := 24) (dK D_LP_pass 16 rfl) ?_
  refine x_aloadn (pc := 25) (i0 := 0) (j := 0) (dK D_LP_pass 17 rfl) rfl rfl ?_
  refine bnE h ?_
  clear h
  intro v4 e_v4 h
  refine wx_getI (pc := 26) (ci := 12) (f := 0) e_v4 (dK D_LP_pass 18 rfl) q_767 (ltK rfl) (ltK rfl) ?_
  refine wx_imul (pc := 29) (dK D_LP_pass 19 rfl) ?_
  refine nmE h ?_
  clear h
  intro v5 e_v5 h
  refine wtop e_v5 ?_
  refine wx_icmp_ge (pc := 30) (t := 75) (dK D_LP_pass 20 rfl) rfl ha4 (Vn_in e_v5) (fun hc21 => ?_) (fun hc21 => ?_)
  · replace h := ifP h hc21
    obtain rfl := Option.some.inj h
    refine x_weak (ls' := [(0, .ref c0), (1, V a1), (2, V a2), (3, V a3)]) (sbc 0 rfl (sbc 1 rfl (sbc 2 rfl (sbc 3 rfl sbn)))) ?_
    refine x_room (bdk hb) (bdn hb) ?_
    exact hx ha2
  · replace h := ifN h hc21
    refine x_aloadn (pc := 33) (i0 := 0) (j := 0) (dK D_LP_pass 21 rfl) rfl rfl ?_
    refine bnE h ?_
    clear h
    intro v6 e_v6 h
    refine wx_getV (pc := 34) (ci := 12) (f := 8) e_v6 (dK D_LP_pass 22 rfl) q_783 (ltK rfl) (ltK rfl) (fun hv6 => ?_)
    refine x_iload (pc := 37) (j := 4) (dK D_LP_pass 23 rfl) rfl ?_
    refine rfE h ?_
    clear h
    intro r7 e_r7 h
    rw [e_r7]
    refine bnE h ?_
    clear h
    intro v8 e_v8 h
    refine wx_zald (pc := 39) e_v8 ha4 (dK D_LP_pass 24 rfl) ?_
    refine wx_if_ne (pc := 40) (t := 69) (dK D_LP_pass 25 rfl) rfl (vI_at e_v8).2 (fun hc20 => ?_) (fun hc20 => ?_)
    · replace h := ifN h hc20
      refine nmE h ?_
      clear h
      intro v9 e_v9 h
      refine wx_iinc (pc := 69) (j := 4) (a := a4) (z := 1) (ls2 := [(4, V v9), (0, .ref c0), (1, V a1), (2, V a2), (3, V a3)]) (dK D_LP_pass 38 rfl) rfl e_v9 (ltK rfl) rfl ?_
      refine x_goto (pc := 72) (tgt := 22) (dK D_LP_pass 39 rfl) rfl ?_
      refine x_weak (ls' := [(0, .ref c0), (1, V a1), (2, V a2), (3, V a3), (4, V v9)]) (sbc 1 rfl (sbc 2 rfl (sbc 3 rfl (sbc 4 rfl (sbc 0 rfl sbn))))) ?_
      replace h := ih _ _ h
      exact h _ _ hb ha2 (Vn_in e_v9) hx
    · replace h := ifP h hc20
      refine x_aloadn (pc := 43) (i0 := 0) (j := 0) (dK D_LP_pass 26 rfl) rfl rfl ?_
      refine bnE h ?_
      clear h
      intro v10 e_v10 h
      refine wx_getV (pc := 44) (ci := 12) (f := 9) e_v10 (dK D_LP_pass 27 rfl) q_785 (ltK rfl) (ltK rfl) (fun hv10 => ?_)
      refine x_iload (pc := 47) (j := 4) (dK D_LP_pass 28 rfl) rfl ?_
      refine rfE h ?_
      clear h
      intro r11 e_r11 h
      rw [e_r11]
      refine bnE h ?_
      clear h
      intro v12 e_v12 h
      refine wx_iald (pc := 49) e_v12 ha4 (dK D_LP_pass 29 rfl) ?_
      refine x_aloadn (pc := 50) (i0 := 0) (j := 0) (dK D_LP_pass 30 rfl) rfl rfl ?_
      refine bnE h ?_
      clear h
      intro v13 e_v13 h
      refine wx_getI (pc := 51) (ci := 12) (f := 2) e_v13 (dK D_LP_pass 31 rfl) q_771 (ltK rfl) (ltK rfl) ?_
      refine wx_icmp_eq (pc := 54) (t := 60) (dK D_LP_pass 32 rfl) rfl (vI_at e_v12).2 (vI_at e_v13).2 (fun hc19 => ?_) (fun hc19 => ?_)
      · replace h := ifP h hc19
        refine x_aloadn (pc := 60) (i0 := 0) (j := 0) (dK D_LP_pass 34 rfl) rfl rfl ?_
        refine x_iload (pc := 61) (j := 4) (dK D_LP_pass 35 rfl) rfl ?_
        refine gdE h ?_
        clear h
        intro hk15 h
        refine bnE h ?_
        clear h
        intro p14 e_p14 h
        obtain ⟨yp14, h9, e9⟩ := adE2 h
        clear h
        subst e9
        have h := h9
        clear h9
        have hk1 := Nat.le_trans (bd1 hb) hkt
        have hn1 := Nat.le_trans (bd2 hb) hnt
        replace hb := bdA hb
        refine x_callX (pc := 63) (As := [V a4]) (rest := []) (mc' := p14.2.1) (ms' := p14.2.2) (dK D_LP_pass 36 rfl) Q_LP_156 sx_LP_close (fitK rfl) (isK_at (Z := (S, L)) (ci := 12) hk15) rfl (leK rfl) hk1 hn1 (tg_LP_close ha4 e_p14) (kxU ?_)
        refine nmE h ?_
        clear h
        intro v16 e_v16 h
        refine wx_iinc (pc := 66) (j := 2) (a := a2) (z := 1) (ls2 := [(2, V v16), (0, .ref c0), (1, V a1), (3, V a3), (4, V a4)]) (dK D_LP_pass 37 rfl) rfl e_v16 (ltK rfl) rfl ?_
        refine nmE h ?_
        clear h
        intro v17 e_v17 h
        refine wx_iinc (pc := 69) (j := 4) (a := a4) (z := 1) (ls2 := [(4, V v17), (2, V v16), (0, .ref c0), (1, V a1), (3, V a3)]) (dK D_LP_pass 38 rfl) rfl e_v17 (ltK rfl) rfl ?_
        refine x_goto (pc := 72) (tgt := 22) (dK D_LP_pass 39 rfl) rfl ?_
        refine x_weak (ls' := [(0, .ref c0), (1, V a1), (2, V v16), (3, V a3), (4, V v17)]) (sbc 2 rfl (sbc 3 rfl (sbc 1 rfl (sbc 4 rfl (sbc 0 rfl sbn))))) ?_
        replace h := ih _ _ h
        exact h _ _ hb (Vn_in e_v16) (Vn_in e_v17) hx
      · replace h := ifN h hc19
        refine x_goto (pc := 57) (tgt := 69) (dK D_LP_pass 33 rfl) rfl ?_
        refine nmE h ?_
        clear h
        intro v18 e_v18 h
        refine wx_iinc (pc := 69) (j := 4) (a := a4) (z := 1) (ls2 := [(4, V v18), (0, .ref c0), (1, V a1), (2, V a2), (3, V a3)]) (dK D_LP_pass 38 rfl) rfl e_v18 (ltK rfl) rfl ?_
        refine x_goto (pc := 72) (tgt := 22) (dK D_LP_pass 39 rfl) rfl ?_
        refine x_weak (ls' := [(0, .ref c0), (1, V a1), (2, V a2), (3, V a3), (4, V v18)]) (sbc 1 rfl (sbc 2 rfl (sbc 3 rfl (sbc 4 rfl (sbc 0 rfl sbn))))) ?_
        replace h := ih _ _ h
        exact h _ _ hb ha2 (Vn_in e_v18) hx
def lb2_LP_pass_4 (c0 : Nat) (a1 : Int) (go : Int × Int × LZ → Option ((Int × LZ) × Nat × Nat)) (a2 : Int) (a3 : Int) (S : St) (L : List PC) : Option ((Int × LZ) × Nat × Nat) := if a1 ≤ a3 then (some ((a2, (S, L)), 0, 0)) else (bnO (gfI L c0 12 2) fun v1 => nm (wr (v1 + 1)) fun v2 => bnO (pf L c0 12 2 (V v2)) fun L3 => bnO (lo2_LP_pass_22 c0 a1 a3 FU (a2, 0, (S, L3))) fun p22 => adC p22.2.1 p22.2.2 (nm (wr (a3 + 1)) fun v23 => go (p22.1.1, v23, (p22.1.2.1, p22.1.2.2))))
def lo2_LP_pass_4 (c0 : Nat) (a1 : Int) : Nat → Int × Int × LZ → Option ((Int × LZ) × Nat × Nat) := lp fun go p => lb2_LP_pass_4 c0 a1 go p.1 p.2.1 p.2.2.1 p.2.2.2
theorem tl2_LP_pass_4 {sc : SC} {c0 : Nat} {a1 : Int} (ha1 : inR a1) {K : Option Value → List PC → Prop} {mc ms kt nt : Nat} (hkt : kt ≤ mc) (hnt : nt ≤ ms) : ∀ (N : Nat) (a : Int × Int × LZ) (q : (Int × LZ) × Nat × Nat), lo2_LP_pass_4 c0 a1 N a = some q → ∀ k n, Bd k n kt nt q → inR a.1 → inR a.2.1 → (inR q.1.1 → GX sc M_LP_pass mc ms 81 [(2, V q.1.1)] [] (wz q.1.2) kt nt K) → GX sc M_LP_pass mc ms 4 [(0, .ref c0), (1, V a1), (2, V a.1), (3, V a.2.1)] [] (wz a.2.2) k n K := by
  refine lp_ind2 (P := fun (a : Int × Int × LZ) (q : (Int × LZ) × Nat × Nat) => ∀ k n, Bd k n kt nt q → inR a.1 → inR a.2.1 → (inR q.1.1 → GX sc M_LP_pass mc ms 81 [(2, V q.1.1)] [] (wz q.1.2) kt nt K) → GX sc M_LP_pass mc ms 4 [(0, .ref c0), (1, V a1), (2, V a.1), (3, V a.2.1)] [] (wz a.2.2) k n K) (fun go ih a q h => ?_)
  obtain ⟨a2, a3, ⟨S, L⟩⟩ := a
  intro k n hb ha2 ha3 hx
  show GX sc M_LP_pass mc ms 4 [(0, .ref c0), (1, V a1), (2, V a2), (3, V a3)] [] (wz (S, L)) k n K
  replace h : lb2_LP_pass_4 c0 a1 go a2 a3 S L = some q := h
  unfold lb2_LP_pass_4 at h
  refine x_iloadn (pc := 4) (i0 := 3) (j := 3) (dK D_LP_pass 4 rfl) rfl rfl ?_
  refine x_iloadn (pc := 5) (i0 := 1) (j := 1) (dK D_LP_pass 5 rfl) rfl rfl ?_
  refine wx_icmp_ge (pc := 6) (t := 81) (dK D_LP_pass 6 rfl) rfl ha3 ha1 (fun hc24 => ?_) (fun hc24 => ?_)
  · replace h := ifP h hc24
    obtain rfl := Option.some.inj h
    refine x_weak (ls' := [(2, V a2)]) (sbc 2 rfl sbn) ?_
    refine x_room (bdk hb) (bdn hb) ?_
    exact hx ha2
  · replace h := ifN h hc24
    refine x_aloadn (pc := 9) (i0 := 0) (j := 0) (dK D_LP_pass 7 rfl) rfl rfl ?_
    refine x_dup (pc := 10) (dK D_LP_pass 8 rfl) rfl ?_
    refine bnE h ?_
    clear h
    intro v1 e_v1 h
    refine wx_getI (pc := 11) (ci := 12) (f := 2) e_v1 (dK D_LP_pass 9 rfl) q_771 (ltK rfl) (ltK rfl) ?_
    refine wx_iconst (pc := 14) (dK D_LP_pass 10 rfl) ?_
    refine wx_iadd (pc := 15) (dK D_LP_pass 11 rfl) ?_
    refine nmE h ?_
    clear h
    intro v2 e_v2 h
    refine wtop e_v2 ?_
    refine bnE h ?_
    clear h
    intro L3 e_L3 h
    refine wx_put (Z := (S, L)) (pc := 16) (ci := 12) (f := 2) e_L3 (dK D_LP_pass 12 rfl) q_771 (ltK rfl) (ltK rfl) rfl okInt ?_
    refine wx_iconst (pc := 19) (dK D_LP_pass 13 rfl) ?_
    refine x_istore (pc := 20) (ls2 := [(4, V 0), (0, .ref c0), (1, V a1), (2, V a2), (3, V a3)]) (dK D_LP_pass 14 rfl) (ltK rfl) rfl ?_
    refine bnE h ?_
    clear h
    intro p22 e_p22 h
    obtain ⟨yp22, h9, e9⟩ := adE2 h
    clear h
    subst e9
    have h := h9
    clear h9
    have hk1 := Nat.le_trans (bd1 hb) hkt
    have hn1 := Nat.le_trans (bd2 hb) hnt
    replace hb := bdA hb
    refine x_weak (ls' := [(0, .ref c0), (1, V a1), (2, V a2), (3, V a3), (4, V 0)]) (sbc 1 rfl (sbc 2 rfl (sbc 3 rfl (sbc 4 rfl (sbc 0 rfl sbn))))) ?_
    refine tl2_LP_pass_22 ha1 ha3 hk1 hn1 FU _ _ e_p22 _ _ ⟨Nat.le_refl _, Nat.le_refl _⟩ ha2 (inRk rfl) (fun hx2_p22 => ?_)
    refine nmE h ?_
    clear h
    intro v23 e_v23 h
    refine wx_iinc (pc := 75) (j := 3) (a := a3) (z := 1) (ls2 := [(3, V v23), (0, .ref c0), (1, V a1), (2, V p22.1.1)]) (dK D_LP_pass 40 rfl) rfl e_v23 (ltK rfl) rfl ?_
    refine x_goto (pc := 78) (tgt := 4) (dK D_LP_pass 41 rfl) rfl ?_
    refine x_weak (ls' := [(0, .ref c0), (1, V a1), (2, V p22.1.1), (3, V v23)]) (sbc 1 rfl (sbc 2 rfl (sbc 3 rfl (sbc 0 rfl sbn)))) ?_
    replace h := ih _ _ h
    exact h _ _ hb hx2_p22 (Vn_in e_v23) hx
def gn_LP_pass (c0 : Nat) (a1 : Int) (S : St) (L : List PC) : Option ((Int × LZ) × Nat × Nat) := bnO (lo2_LP_pass_4 c0 a1 FU (0, 0, (S, L))) fun p25 => adC p25.2.1 p25.2.2 (some ((p25.1.1, (p25.1.2.1, p25.1.2.2)), 0, 0))
theorem te_LP_pass {sc : SC} {c0 : Nat} {a1 : Int} (ha1 : inR a1) {S : St} {L : List PC} {q : (Int × LZ) × Nat × Nat} (h : gn_LP_pass c0 a1 S L = some q) {mc ms k n : Nat} (hb : Bd k n mc ms q) : GX sc M_LP_pass mc ms 0 [(0, .ref c0), (1, V a1)] [] (wz (S, L)) k n (KXI q.1.1 q.1.2) := by
  unfold gn_LP_pass at h
  refine wx_iconst (pc := 0) (dK D_LP_pass 0 rfl) ?_
  refine x_istoren (pc := 1) (i0 := 2) (ls2 := [(2, V 0), (0, .ref c0), (1, V a1)]) (dK D_LP_pass 1 rfl) rfl (ltK rfl) rfl ?_
  refine wx_iconst (pc := 2) (dK D_LP_pass 2 rfl) ?_
  refine x_istoren (pc := 3) (i0 := 3) (ls2 := [(3, V 0), (2, V 0), (0, .ref c0), (1, V a1)]) (dK D_LP_pass 3 rfl) rfl (ltK rfl) rfl ?_
  refine bnE h ?_
  clear h
  intro p25 e_p25 h
  obtain ⟨yp25, h9, e9⟩ := adE2 h
  clear h
  subst e9
  have h := h9
  clear h9
  have hk1 := bd1 hb
  have hn1 := bd2 hb
  replace hb := bdA hb
  refine x_weak (ls' := [(0, .ref c0), (1, V a1), (2, V 0), (3, V 0)]) (sbc 2 rfl (sbc 3 rfl (sbc 1 rfl (sbc 0 rfl sbn)))) ?_
  refine tl2_LP_pass_4 ha1 hk1 hn1 FU _ _ e_p25 _ _ ⟨Nat.le_refl _, Nat.le_refl _⟩ (inRk rfl) (inRk rfl) (fun hx2_p25 => ?_)
  refine x_iloadn (pc := 81) (i0 := 2) (j := 0) (dK D_LP_pass 42 rfl) rfl rfl ?_
  obtain rfl := Option.some.inj h
  exact wk_iretI (pc := 82) (dK D_LP_pass 43 rfl) rfl (bdk hb) (bdn hb) ⟨rfl, hx2_p25, rfl⟩
theorem tg_LP_pass {sc : SC} {c0 : Nat} {a1 : Int} (ha1 : inR a1) {S : St} {L : List PC} {q : (Int × LZ) × Nat × Nat} (h : gn_LP_pass c0 a1 S L = some q) : EvX sc M_LP_pass [.ref c0, V a1] (wz (S, L)) q.2.1 q.2.2 (KXI q.1.1 q.1.2) := EvX.of pn2_LP rfl (leK rfl) (te_LP_pass ha1 h ⟨Nat.le_of_eq (Nat.zero_add _), Nat.le_of_eq (Nat.zero_add _)⟩)
