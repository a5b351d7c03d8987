def lb2_LP_swap_8 (c0 : Nat) (a1 : Int) (a2 : Int) (c3 : Nat) (go : LZ → Option ((LZ) × Nat × Nat))  (S : St) (L : List PC) : Option ((LZ) × Nat × Nat) := if isK L c3 14 = true then (bnO (gn_Itr_hasNext c3 S L) fun p6 => if p6 = true then (if isK L c3 14 = true then (bnO (gn_Itr_next c3 S L) fun p9 => adC p9.2.1 p9.2.2 (rfB p9.1.1 fun r11 => if isK p9.1.2.2 r11 11 = true then (bnO (gfI p9.1.2.2 r11 11 5) fun v13 => if v13 = a1 then (bnO (pf p9.1.2.2 r11 11 5 (V a2)) fun L19 => go (p9.1.2.1, L19)) else (bnO (gfI p9.1.2.2 r11 11 5) fun v14 => if v14 = a2 then (bnO (pf p9.1.2.2 r11 11 5 (V a1)) fun L17 => go (p9.1.2.1, L17)) else (bnO (gfI p9.1.2.2 r11 11 5) fun v15 => bnO (pf p9.1.2.2 r11 11 5 (V v15)) fun L16 => go (p9.1.2.1, L16)))) else none)) else none) else (some ((S, L), 0, 0))) else none
def lo2_LP_swap_8 (c0 : Nat) (a1 : Int) (a2 : Int) (c3 : Nat) : Nat → LZ → Option ((LZ) × Nat × Nat) := lp fun go p => lb2_LP_swap_8 c0 a1 a2 c3 go p.1 p.2
theorem tl2_LP_swap_8 {sc : SC} {c0 : Nat} {a1 : Int} (ha1 : inR a1) {a2 : Int} (ha2 : inR a2) {c3 : Nat} {K : Option Value → List PC → Prop} {mc ms kt nt : Nat} (hkt : kt ≤ mc) (hnt : nt ≤ ms) : ∀ (N : Nat) (a : LZ) (q : (LZ) × Nat × Nat), lo2_LP_swap_8 c0 a1 a2 c3 N a = some q → ∀ k n, Bd k n kt nt q → (GX sc M_LP_swap mc ms 67 [(0, .ref c0), (1, V a1), (2, V a2)] [] (wz q.1) kt nt K) → GX sc M_LP_swap mc ms 8 [(0, .ref c0), (1, V a1), (2, V a2), (3, .ref c3)] [] (wz a) k n K := by
  refine lp_ind2 (P := fun (a : LZ) (q : (LZ) × Nat × Nat) => ∀ k n, Bd k n kt nt q → (GX sc M_LP_swap mc ms 67 [(0, .ref c0), (1, V a1), (2, V a2)] [] (wz q.1) kt nt K) → GX sc M_LP_swap mc ms 8 [(0, .ref c0), (1, V a1), (2, V a2), (3, .ref c3)] [] (wz a) k n K) (fun go ih a q h => ?_)
  obtain ⟨S, L⟩ := a
  intro k n hb hx
  show GX sc M_LP_swap mc ms 8 [(0, .ref c0), (1, V a1), (2, V a2), (3, .ref c3)] [] (wz (S, L)) k n K
  replace h : lb2_LP_swap_8 c0 a1 a2 c3 go S L = some q := h
  unfold lb2_LP_swap_8 at h
  refine x_aloadn (pc := 8) (i0 := 3) (j := 3) (dK D_LP_swap_0 4 rfl) rfl rfl ?_
  refine gdE h ?_
  clear h
  intro hk7 h
  refine bnE h ?_
  clear h
  intro p6 e_p6 h
  refine x_callF (pc := 9) (As := []) (rest := []) (mc' := 0) (ms' := 0) (dK D_LP_swap_0 5 rfl) LE_Itr_hasNext (List.mem_of_getElem? (i := 0) rfl) q_839 q_843 q_845 rfl q_820 (fitK rfl) (isK_at (Z := (S, L)) (ci := 14) hk7) rfl (leK rfl) (Nat.le_trans (bdk hb) hkt) (Nat.le_trans (bdn hb) hnt) (tg_Itr_hasNext  e_p6) (kxB' ?_)
  refine wx_ifB_eq (pc := 14) (b := p6) (t := 67) (dK D_LP_swap_0 6 rfl) rfl (fun hc8 => ?_) (fun hc8 => ?_)
  · replace h := ifP h hc8
    refine x_aloadn (pc := 17) (i0 := 3) (j := 3) (dK D_LP_swap_0 7 rfl) rfl rfl ?_
    refine gdE h ?_
    clear h
    intro hk10 h
    refine bnE h ?_
    clear h
    intro p9 e_p9 h
    obtain ⟨yp9, h9, e9⟩ := adE2 h
    clear h
    subst e9
    have h := h9
    clear h9
    have hk1 := Nat.le_trans (bd1 hb) hkt
    have hn1 := Nat.le_trans (bd2 hb) hnt
    replace hb := bdA hb
    refine x_callF (pc := 18) (As := []) (rest := []) (mc' := p9.2.1) (ms' := p9.2.2) (dK D_LP_swap_0 8 rfl) LE_Itr_next (List.mem_of_getElem? (i := 1) rfl) q_849 q_852 q_854 rfl q_820 (fitK rfl) (isK_at (Z := (S, L)) (ci := 14) hk10) rfl (leK rfl) hk1 hn1 (tg_Itr_next  e_p9) (kxR (fun h_p9 => ?_))
    refine rfE h ?_
    clear h
    intro r11 e_r11 h
    rw [e_r11]
    refine gdE h ?_
    clear h
    intro hk12 h
    refine x_cast (pc := 23) (dK D_LP_swap_0 9 rfl) q_861 (isK_at (Z := (p9.1.2.1, p9.1.2.2)) (ci := 11) hk12) ?_
    refine x_astore (pc := 26) (ls2 := [(4, .ref r11), (0, .ref c0), (1, V a1), (2, V a2), (3, .ref c3)]) (dK D_LP_swap_0 10 rfl) (ltK rfl) rfl ?_
    refine x_aload (pc := 28) (j := 0) (dK D_LP_swap_0 11 rfl) rfl ?_
    refine x_aload (pc := 30) (j := 0) (dK D_LP_swap_0 12 rfl) rfl ?_
    refine bnE h ?_
    clear h
    intro v13 e_v13 h
    refine wx_getI (pc := 32) (ci := 11) (f := 5) e_v13 (dK D_LP_swap_0 13 rfl) q_888 (ltK rfl) (ltK rfl) ?_
    refine x_iloadn (pc := 35) (i0 := 1) (j := 2) (dK D_LP_swap_0 14 rfl) rfl rfl ?_
    refine wx_icmp_ne (pc := 36) (t := 43) (dK D_LP_swap_0 15 rfl) rfl (vI_at e_v13).2 ha1 (fun hc20 => ?_) (fun hc20 => ?_)
    · replace h := ifN h hc20
      refine x_aload (pc := 43) (j := 0) (dK D_LP_swap_0 18 rfl) rfl ?_
      refine bnE h ?_
      clear h
      intro v14 e_v14 h
      refine wx_getI (pc := 45) (ci := 11) (f := 5) e_v14 (dK D_LP_swap_0 19 rfl) q_888 (ltK rfl) (ltK rfl) ?_
      refine x_iloadn (pc := 48) (i0 := 2) (j := 3) (dK D_LP_swap_0 20 rfl) rfl rfl ?_
      refine wx_icmp_ne (pc := 49) (t := 56) (dK D_LP_swap_0 21 rfl) rfl (vI_at e_v14).2 ha2 (fun hc18 => ?_) (fun hc18 => ?_)
      · replace h := ifN h hc18
        refine x_aload (pc := 56) (j := 0) (dK D_LP_swap_0 24 rfl) rfl ?_
        refine bnE h ?_
        clear h
        intro v15 e_v15 h
        refine wx_getI (pc := 58) (ci := 11) (f := 5) e_v15 (dK D_LP_swap_0 25 rfl) q_888 (ltK rfl) (ltK rfl) ?_
        refine bnE h ?_
        clear h
        intro L16 e_L16 h
        refine wx_put (Z := (p9.1.2.1, p9.1.2.2)) (pc := 61) (ci := 11) (f := 5) e_L16 (dK D_LP_swap_0 26 rfl) q_888 (ltK rfl) (ltK rfl) rfl okInt ?_
        refine x_goto (pc := 64) (tgt := 8) (dK D_LP_swap_0 27 rfl) rfl ?_
        refine x_weak (ls' := [(0, .ref c0), (1, V a1), (2, V a2), (3, .ref c3)]) (sbc 1 rfl (sbc 2 rfl (sbc 3 rfl (sbc 4 rfl sbn)))) ?_
        replace h := ih _ _ h
        exact h _ _ hb hx
      · replace h := ifP h hc18
        refine x_iloadn (pc := 52) (i0 := 1) (j := 2) (dK D_LP_swap_0 22 rfl) rfl rfl ?_
        refine x_goto (pc := 53) (tgt := 61) (dK D_LP_swap_0 23 rfl) rfl ?_
        refine bnE h ?_
        clear h
        intro L17 e_L17 h
        refine wx_put (Z := (p9.1.2.1, p9.1.2.2)) (pc := 61) (ci := 11) (f := 5) e_L17 (dK D_LP_swap_0 26 rfl) q_888 (ltK rfl) (ltK rfl) rfl okInt ?_
        refine x_goto (pc := 64) (tgt := 8) (dK D_LP_swap_0 27 rfl) rfl ?_
        refine x_weak (ls' := [(0, .ref c0), (1, V a1), (2, V a2), (3, .ref c3)]) (sbc 1 rfl (sbc 2 rfl (sbc 3 rfl (sbc 4 rfl sbn)))) ?_
        replace h := ih _ _ h
        exact h _ _ hb hx
    · replace h := ifP h hc20
      refine x_iloadn (pc := 39) (i0 := 2) (j := 3) (dK D_LP_swap_0 16 rfl) rfl rfl ?_
      refine x_goto (pc := 40) (tgt := 61) (dK D_LP_swap_0 17 rfl) rfl ?_
      refine bnE h ?_
      clear h
      intro L19 e_L19 h
      refine wx_put (Z := (p9.1.2.1, p9.1.2.2)) (pc := 61) (ci := 11) (f := 5) e_L19 (dK D_LP_swap_0 26 rfl) q_888 (ltK rfl) (ltK rfl) rfl okInt ?_
      refine x_goto (pc := 64) (tgt := 8) (dK D_LP_swap_0 27 rfl) rfl ?_
      refine x_weak (ls' := [(0, .ref c0), (1, V a1), (2, V a2), (3, .ref c3)]) (sbc 1 rfl (sbc 2 rfl (sbc 3 rfl (sbc 4 rfl sbn)))) ?_
      replace h := ih _ _ h
      exact h _ _ hb hx
  · replace h := ifN h hc8
    obtain rfl := Option.some.inj h
    refine x_weak (ls' := [(0, .ref c0), (1, V a1), (2, V a2)]) (sbc 0 rfl (sbc 1 rfl (sbc 2 rfl sbn))) ?_
    refine x_room (bdk hb) (bdn hb) ?_
    exact hx 
def lb2_LP_swap_75 (a1 : Int) (a2 : Int) (c3 : Nat) (go : LZ → Option ((LZ) × Nat × Nat))  (S : St) (L : List PC) : Option ((LZ) × Nat × Nat) := if isK L c3 14 = true then (bnO (gn_Itr_hasNext c3 S L) fun p27 => if p27 = true then (if isK L c3 14 = true then (bnO (gn_Itr_next c3 S L) fun p30 => adC p30.2.1 p30.2.2 (rfB p30.1.1 fun r32 => if isK p30.1.2.2 r32 11 = true then (bnO (gfI p30.1.2.2 r32 11 5) fun v34 => if v34 = a1 then (bnO (pf p30.1.2.2 r32 11 5 (V a2)) fun L40 => go (p30.1.2.1, L40)) else (bnO (gfI p30.1.2.2 r32 11 5) fun v35 => if v35 = a2 then (bnO (pf p30.1.2.2 r32 11 5 (V a1)) fun L38 => go (p30.1.2.1, L38)) else (bnO (gfI p30.1.2.2 r32 11 5) fun v36 => bnO (pf p30.1.2.2 r32 11 5 (V v36)) fun L37 => go (p30.1.2.1, L37)))) else none)) else none) else (some ((S, L), 0, 0))) else none
def lo2_LP_swap_75 (a1 : Int) (a2 : Int) (c3 : Nat) : Nat → LZ → Option ((LZ) × Nat × Nat) := lp fun go p => lb2_LP_swap_75 a1 a2 c3 go p.1 p.2
theorem tl2_LP_swap_75 {sc : SC} {a1 : Int} (ha1 : inR a1) {a2 : Int} (ha2 : inR a2) {c3 : Nat} {K : Option Value → List PC → Prop} {mc ms kt nt : Nat} (hkt : kt ≤ mc) (hnt : nt ≤ ms) : ∀ (N : Nat) (a : LZ) (q : (LZ) × Nat × Nat), lo2_LP_swap_75 a1 a2 c3 N a = some q → ∀ k n, Bd k n kt nt q → (GX sc M_LP_swap mc ms 134 [] [] (wz q.1) kt nt K) → GX sc M_LP_swap mc ms 75 [(1, V a1), (2, V a2), (3, .ref c3)] [] (wz a) k n K := by
  refine lp_ind2 (P := fun (a : LZ) (q : (LZ) × Nat × Nat) => ∀ k n, Bd k n kt nt q → (GX sc M_LP_swap mc ms 134 [] [] (wz q.1) kt nt K) → GX sc M_LP_swap mc ms 75 [(1, V a1), (2, V a2), (3, .ref c3)] [] (wz a) k n K) (fun go ih a q h => ?_)
  obtain ⟨S, L⟩ := a
  intro k n hb hx
  show GX sc M_LP_swap mc ms 75 [(1, V a1), (2, V a2), (3, .ref c3)] [] (wz (S, L)) k n K
  replace h : lb2_LP_swap_75 a1 a2 c3 go S L = some q := h
  unfold lb2_LP_swap_75 at h
  refine x_aloadn (pc := 75) (i0 := 3) (j := 2) (dK D_LP_swap_0 32 rfl) rfl rfl ?_
  refine gdE h ?_
  clear h
  intro hk28 h
  refine bnE h ?_
  clear h
  intro p27 e_p27 h
  refine x_callF (pc := 76) (As := []) (rest := []) (mc' := 0) (ms' := 0) (dK D_LP_swap_0 33 rfl) LE_Itr_hasNext (List.mem_of_getElem? (i := 0) rfl) q_839 q_843 q_845 rfl q_820 (fitK rfl) (isK_at (Z := (S, L)) (ci := 14) hk28) rfl (leK rfl) (Nat.le_trans (bdk hb) hkt) (Nat.le_trans (bdn hb) hnt) (tg_Itr_hasNext  e_p27) (kxB' ?_)
  refine wx_ifB_eq (pc := 81) (b := p27) (t := 134) (dK D_LP_swap_0 34 rfl) rfl (fun hc29 => ?_) (fun hc29 => ?_)
  · replace h := ifP h hc29
    refine x_aloadn (pc := 84) (i0 := 3) (j := 2) (dK D_LP_swap_0 35 rfl) rfl rfl ?_
    refine gdE h ?_
    clear h
    intro hk31 h
    refine bnE h ?_
    clear h
    intro p30 e_p30 h
    obtain ⟨yp30, h9, e9⟩ := adE2 h
    clear h
    subst e9
    have h := h9
    clear h9
    have hk1 := Nat.le_trans (bd1 hb) hkt
    have hn1 := Nat.le_trans (bd2 hb) hnt
    replace hb := bdA hb
    refine x_callF (pc := 85) (As := []) (rest := []) (mc' := p30.2.1) (ms' := p30.2.2) (dK D_LP_swap_0 36 rfl) LE_Itr_next (List.mem_of_getElem? (i := 1) rfl) q_849 q_852 q_854 rfl q_820 (fitK rfl) (isK_at (Z := (S, L)) (ci := 14) hk31) rfl (leK rfl) hk1 hn1 (tg_Itr_next  e_p30) (kxR (fun h_p30 => ?_))
    refine rfE h ?_
    clear h
    intro r32 e_r32 h
    rw [e_r32]
    refine gdE h ?_
    clear h
    intro hk33 h
    refine x_cast (pc := 90) (dK D_LP_swap_0 37 rfl) q_861 (isK_at (Z := (p30.1.2.1, p30.1.2.2)) (ci := 11) hk33) ?_
    refine x_astore (pc := 93) (ls2 := [(4, .ref r32), (1, V a1), (2, V a2), (3, .ref c3)]) (dK D_LP_swap_0 38 rfl) (ltK rfl) rfl ?_
    refine x_aload (pc := 95) (j := 0) (dK D_LP_swap_0 39 rfl) rfl ?_
    refine x_aload (pc := 97) (j := 0) (dK D_LP_swap_0 40 rfl) rfl ?_
    refine bnE h ?_
    clear h
    intro v34 e_v34 h
    refine wx_getI (pc := 99) (ci := 11) (f := 5) e_v34 (dK D_LP_swap_0 41 rfl) q_888 (ltK rfl) (ltK rfl) ?_
    refine x_iloadn (pc := 102) (i0 := 1) (j := 1) (dK D_LP_swap_0 42 rfl) rfl rfl ?_
    refine wx_icmp_ne (pc := 103) (t := 110) (dK D_LP_swap_0 43 rfl) rfl (vI_at e_v34).2 ha1 (fun hc41 => ?_) (fun hc41 => ?_)
    · replace h := ifN h hc41
      refine x_aload (pc := 110) (j := 0) (dK D_LP_swap_0 46 rfl) rfl ?_
      refine bnE h ?_
      clear h
      intro v35 e_v35 h
      refine wx_getI (pc := 112) (ci := 11) (f := 5) e_v35 (dK D_LP_swap_0 47 rfl) q_888 (ltK rfl) (ltK rfl) ?_
      refine x_iloadn (pc := 115) (i0 := 2) (j := 2) (dK D_LP_swap_0 48 rfl) rfl rfl ?_
      refine wx_icmp_ne (pc := 116) (t := 123) (dK D_LP_swap_0 49 rfl) rfl (vI_at e_v35).2 ha2 (fun hc39 => ?_) (fun hc39 => ?_)
      · replace h := ifN h hc39
        refine x_aload (pc := 123) (j := 0) (dK D_LP_swap_1 2 rfl) rfl ?_
        refine bnE h ?_
        clear h
        intro v36 e_v36 h
        refine wx_getI (pc := 125) (ci := 11) (f := 5) e_v36 (dK D_LP_swap_1 3 rfl) q_888 (ltK rfl) (ltK rfl) ?_
        refine bnE h ?_
        clear h
        intro L37 e_L37 h
        refine wx_put (Z := (p30.1.2.1, p30.1.2.2)) (pc := 128) (ci := 11) (f := 5) e_L37 (dK D_LP_swap_1 4 rfl) q_888 (ltK rfl) (ltK rfl) rfl okInt ?_
        refine x_goto (pc := 131) (tgt := 75) (dK D_LP_swap_1 5 rfl) rfl ?_
        refine x_weak (ls' := [(1, V a1), (2, V a2), (3, .ref c3)]) (sbc 1 rfl (sbc 2 rfl (sbc 3 rfl sbn))) ?_
        replace h := ih _ _ h
        exact h _ _ hb hx
      · replace h := ifP h hc39
        refine x_iloadn (pc := 119) (i0 := 1) (j := 1) (dK D_LP_swap_1 0 rfl) rfl rfl ?_
        refine x_goto (pc := 120) (tgt := 128) (dK D_LP_swap_1 1 rfl) rfl ?_
        refine bnE h ?_
        clear h
        intro L38 e_L38 h
        refine wx_put (Z := (p30.1.2.1, p30.1.2.2)) (pc := 128) (ci := 11) (f := 5) e_L38 (dK D_LP_swap_1 4 rfl) q_888 (ltK rfl) (ltK rfl) rfl okInt ?_
        refine x_goto (pc := 131) (tgt := 75) (dK D_LP_swap_1 5 rfl) rfl ?_
        refine x_weak (ls' := [(1, V a1), (2, V a2), (3, .ref c3)]) (sbc 1 rfl (sbc 2 rfl (sbc 3 rfl sbn))) ?_
        replace h := ih _ _ h
        exact h _ _ hb hx
    · replace h := ifP h hc41
      refine x_iloadn (pc := 106) (i0 := 2) (j := 2) (dK D_LP_swap_0 44 rfl) rfl rfl ?_
      refine x_goto (pc := 107) (tgt := 128) (dK D_LP_swap_0 45 rfl) rfl ?_
      refine bnE h ?_
      clear h
      intro L40 e_L40 h
      refine wx_put (Z := (p30.1.2.1, p30.1.2.2)) (pc := 128) (ci := 11) (f := 5) e_L40 (dK D_LP_swap_1 4 rfl) q_888 (ltK rfl) (ltK rfl) rfl okInt ?_
      refine x_goto (pc := 131) (tgt := 75) (dK D_LP_swap_1 5 rfl) rfl ?_
      refine x_weak (ls' := [(1, V a1), (2, V a2), (3, .ref c3)]) (sbc 1 rfl (sbc 2 rfl (sbc 3 rfl sbn))) ?_
      replace h := ih _ _ h
      exact h _ _ hb hx
  · replace h := ifN h hc29
    obtain rfl := Option.some.inj h
    refine x_weak (ls' := []) sbn ?_
    refine x_room (bdk hb) (bdn hb) ?_
    exact hx 
def gn_LP_swap (c0 : Nat) (a1 : Int) (a2 : Int) (S : St) (L : List PC) : Option ((LZ) × Nat × Nat) := bnO (gfV L c0 12 4) fun v1 => rfB v1 fun r2 => if isK L r2 13 = true then (bnO (gn_AL_iterator r2 S L) fun p3 => adC p3.2.1 p3.2.2 (rfB p3.1.1 fun r5 => bnO (lo2_LP_swap_8 c0 a1 a2 r5 FU (p3.1.2.1, p3.1.2.2)) fun p21 => adC p21.2.1 p21.2.2 (bnO (gfV p21.1.2 c0 12 6) fun v22 => rfB v22 fun r23 => if isK p21.1.2 r23 13 = true then (bnO (gn_AL_iterator r23 p21.1.1 p21.1.2) fun p24 => adC p24.2.1 p24.2.2 (rfB p24.1.1 fun r26 => bnO (lo2_LP_swap_75 a1 a2 r26 FU (p24.1.2.1, p24.1.2.2)) fun p42 => adC p42.2.1 p42.2.2 (some ((p42.1.1, p42.1.2), 0, 0)))) else none))) else none
theorem te_LP_swap {sc : SC} {c0 : Nat} {a1 : Int} (ha1 : inR a1) {a2 : Int} (ha2 : inR a2) {S : St} {L : List PC} {q : (LZ) × Nat × Nat} (h : gn_LP_swap c0 a1 a2 S L = some q) {mc ms k n : Nat} (hb : Bd k n mc ms q) : GX sc M_LP_swap mc ms 0 [(0, .ref c0), (1, V a1), (2, V a2)] [] (wz (S, L)) k n (KXU q.1) := by
  unfold gn_LP_swap at h
  refine x_aloadn (pc := 0) (i0 := 0) (j := 0) (dK D_LP_swap_0 0 rfl) rfl rfl ?_
  refine bnE h ?_
  clear h
  intro v1 e_v1 h
  refine wx_getV (pc := 1) (ci := 12) (f := 4) e_v1 (dK D_LP_swap_0 1 rfl) q_775 (ltK rfl) (ltK rfl) (fun hv1 => ?_)
  refine rfE h ?_
  clear h
  intro r2 e_r2 h
  rw [e_r2]
  refine gdE h ?_
  clear h
  intro hk4 h
  refine bnE h ?_
  clear h
  intro p3 e_p3 h
  obtain ⟨yp3, h9, e9⟩ := adE2 h
  clear h
  subst e9
  have h := h9
  clear h9
  have hk1 := bd1 hb
  have hn1 := bd2 hb
  replace hb := bdA hb
  refine x_callX (pc := 4) (As := []) (rest := []) (mc' := p3.2.1) (ms' := p3.2.2) (dK D_LP_swap_0 2 rfl) Q_LP_49 sx_AL_iterator (fitK rfl) (isK_at (Z := (S, L)) (ci := 13) hk4) rfl (leK rfl) hk1 hn1 (tg_AL_iterator  e_p3) (kxR (fun h_p3 => ?_))
  refine x_astorenV (pc := 7) (i0 := 3) (ls2 := [(3, p3.1.1), (0, .ref c0), (1, V a1), (2, V a2)]) h_p3 (dK D_LP_swap_0 3 rfl) rfl (ltK rfl) rfl ?_
  refine rfE h ?_
  clear h
  intro r5 e_r5 h
  rw [e_r5]
  refine bnE h ?_
  clear h
  intro p21 e_p21 h
  obtain ⟨yp21, h9, e9⟩ := adE2 h
  clear h
  subst e9
  have h := h9
  clear h9
  have hk1 := bd1 hb
  have hn1 := bd2 hb
  replace hb := bdA hb
  refine x_weak (ls' := [(0, .ref c0), (1, V a1), (2, V a2), (3, .ref r5)]) (sbc 1 rfl (sbc 2 rfl (sbc 3 rfl (sbc 0 rfl sbn)))) ?_
  refine tl2_LP_swap_8 ha1 ha2 hk1 hn1 FU _ _ e_p21 _ _ ⟨Nat.le_refl _, Nat.le_refl _⟩  ?_
  refine x_aloadn (pc := 67) (i0 := 0) (j := 0) (dK D_LP_swap_0 28 rfl) rfl rfl ?_
  refine bnE h ?_
  clear h
  intro v22 e_v22 h
  refine wx_getV (pc := 68) (ci := 12) (f := 6) e_v22 (dK D_LP_swap_0 29 rfl) q_779 (ltK rfl) (ltK rfl) (fun hv22 => ?_)
  refine rfE h ?_
  clear h
  intro r23 e_r23 h
  rw [e_r23]
  refine gdE h ?_
  clear h
  intro hk25 h
  refine bnE h ?_
  clear h
  intro p24 e_p24 h
  obtain ⟨yp24, h9, e9⟩ := adE2 h
  clear h
  subst e9
  have h := h9
  clear h9
  have hk1 := bd1 hb
  have hn1 := bd2 hb
  replace hb := bdA hb
  refine x_callX (pc := 71) (As := []) (rest := []) (mc' := p24.2.1) (ms' := p24.2.2) (dK D_LP_swap_0 30 rfl) Q_LP_49 sx_AL_iterator (fitK rfl) (isK_at (Z := (p21.1.1, p21.1.2)) (ci := 13) hk25) rfl (leK rfl) hk1 hn1 (tg_AL_iterator  e_p24) (kxR (fun h_p24 => ?_))
  refine x_astorenV (pc := 74) (i0 := 3) (ls2 := [(3, p24.1.1), (0, .ref c0), (1, V a1), (2, V a2)]) h_p24 (dK D_LP_swap_0 31 rfl) rfl (ltK rfl) rfl ?_
  refine rfE h ?_
  clear h
  intro r26 e_r26 h
  rw [e_r26]
  refine bnE h ?_
  clear h
  intro p42 e_p42 h
  obtain ⟨yp42, h9, e9⟩ := adE2 h
  clear h
  subst e9
  have h := h9
  clear h9
  have hk1 := bd1 hb
  have hn1 := bd2 hb
  replace hb := bdA hb
  refine x_weak (ls' := [(1, V a1), (2, V a2), (3, .ref r26)]) (sbc 2 rfl (sbc 3 rfl (sbc 0 rfl sbn))) ?_
  refine tl2_LP_swap_75 ha1 ha2 hk1 hn1 FU _ _ e_p42 _ _ ⟨Nat.le_refl _, Nat.le_refl _⟩  ?_
  obtain rfl := Option.some.inj h
  exact wk_ret (pc := 134) (dK D_LP_swap_1 6 rfl) rfl (bdk hb) (bdn hb) ⟨rfl, rfl⟩
theorem tg_LP_swap {sc : SC} {c0 : Nat} {a1 : Int} (ha1 : inR a1) {a2 : Int} (ha2 : inR a2) {S : St} {L : List PC} {q : (LZ) × Nat × Nat} (h : gn_LP_swap c0 a1 a2 S L = some q) : EvX sc M_LP_swap [.ref c0, V a1, V a2] (wz (S, L)) q.2.1 q.2.2 (KXU q.1) := EvX.of pn2_LP rfl (leK rfl) (te_LP_swap ha1 ha2 h ⟨Nat.le_of_eq (Nat.zero_add _), Nat.le_of_eq (Nat.zero_add _)⟩)
def jf2_LP_exchangeReason_92_48 (c0 : Nat) (a1 : Int) (a2 : Int) (S : St) (L : List PC) (go : Int × Int → Option (Int)) (a3 : Int) (a4 : Int) (c5 : Nat) : Option (Int) := bnO (gfI L c5 11 6) fun v24 => if v24 = 0 then (bnO (gfI L c5 11 5) fun v25 => if isK L c0 12 = true then (bnO (gn_LP_sided c0 c5 v25 S L) fun p26 => if p26 = true then (bnO (gfI L c5 11 5) fun v29 => if isK L c0 12 = true then (bnO (gn_LP_rival c0 c5 v29 S L) fun p30 => if p30 = true then (nm (wr (a4 + 1)) fun v34 => go ((i_min a3 6), v34)) else (nm (wr (a4 + 1)) fun v33 => go ((i_min a3 9), v33))) else none) else (nm (wr (a4 + 1)) fun v35 => go ((i_min a3 5), v35))) else none) else (bnO (gfV L c0 12 7) fun v36 => bnO (gfI L c5 11 5) fun v37 => if isK L c0 12 = true then (bnO (gn_LP_form c0 v37 S L) fun p38 => rfB v36 fun r40 => bnO (ald L 2 r40 p38) fun v41 => if v41 = 0 then (nm (wr (a4 + 1)) fun v53 => go ((i_min a3 4), v53)) else (bnO (gfI L c5 11 5) fun v42 => if isK L c0 12 = true then (bnO (gn_LP_sided c0 c5 v42 S L) fun p43 => if p43 = true then (bnO (gfI L c5 11 5) fun v46 => if isK L c0 12 = true then (bnO (gn_LP_rival c0 c5 v46 S L) fun p47 => if p47 = true then (nm (wr (a4 + 1)) fun v51 => go ((i_min a3 6), v51)) else (nm (wr (a4 + 1)) fun v50 => go ((i_min a3 9), v50))) else none) else (nm (wr (a4 + 1)) fun v52 => go ((i_min a3 5), v52))) else none)) else none)
theorem tj2_LP_exchangeReason_92_48 {sc : SC} {c0 : Nat} {a1 : Int} (ha1 : inR a1) {a2 : Int} (ha2 : inR a2) {K : Option Value → List PC → Prop} {S : St} {L : List PC} {mc ms k n : Nat} (hk0 : k ≤ mc) (hn0 : n ≤ ms) {go : Int × Int → Option (Int)} (ih : ∀ (a : Int × Int) (q : Int), go a = some q → inR a.1 → inR a.2 → (inR q → GX sc M_LP_exchangeReason mc ms 171 [(0, .ref c0), (1, V a1), (2, V a2), (3, V q)] [] (wz (S, L)) k n K) → GX sc M_LP_exchangeReason mc ms 48 [(0, .ref c0), (1, V a1), (2, V a2), (3, V a.1), (4, V a.2)] [] (wz (S, L)) k n K) {a3 : Int} (ha3 : inR a3) {a4 : Int} (ha4 : inR a4) {c5 : Nat} {q : Int} (h : jf2_LP_exchangeReason_92_48 c0 a1 a2 S L go a3 a4 c5 = some q) (hx : (inR q → GX sc M_LP_exchangeReason mc ms 171 [(0, .ref c0), (1, V a1), (2, V a2), (3, V q)] [] (wz (S, L)) k n K)) : GX sc M_LP_exchangeReason mc ms 92 [(0, .ref c0), (1, V a1), (2, V a2), (3, V a3), (4, V a4), (5, .ref c5)] [] (wz (S, L)) k n K := by
  unfold jf2_LP_exchangeReason_92_48 at h
  refine x_iloadn (pc := 92) (i0 := 3) (j := 3) (dK D_LP_exchangeReason_0 47 rfl) rfl rfl ?_
  refine x_aload (pc := 93) (j := 5) (dK D_LP_exchangeReason_0 48 rfl) rfl ?_
  refine bnE h ?_
  clear h
  intro v24 e_v24 h
  refine wx_getI (pc := 95) (ci := 11) (f := 6) e_v24 (dK D_LP_exchangeReason_0 49 rfl) q_892 (ltK rfl) (ltK rfl) ?_
  refine wx_if_eq (pc := 98) (t := 122) (dK D_LP_exchangeReason_1 0 rfl) rfl (vI_at e_v24).2 (fun hc55 => ?_) (fun hc55 => ?_)
  · replace h := ifP h hc55
    refine x_aloadn (pc := 122) (i0 := 0) (j := 0) (dK D_LP_exchangeReason_1 11 rfl) rfl rfl ?_
    refine x_aload (pc := 123) (j := 5) (dK D_LP_exchangeReason_1 12 rfl) rfl ?_
    refine x_aload (pc := 125) (j := 5) (dK D_LP_exchangeReason_1 13 rfl) rfl ?_
    refine bnE h ?_
    clear h
    intro v25 e_v25 h
    refine wx_getI (pc := 127) (ci := 11) (f := 5) e_v25 (dK D_LP_exchangeReason_1 14 rfl) q_888 (ltK rfl) (ltK rfl) ?_
    refine gdE h ?_
    clear h
    intro hk27 h
    refine bnE h ?_
    clear h
    intro p26 e_p26 h
    refine x_callX (pc := 130) (As := [.ref c5, V v25]) (rest := [V a3]) (mc' := 0) (ms' := 0) (dK D_LP_exchangeReason_1 15 rfl) Q_LP_124 sx_LP_sided (fitK rfl) (isK_at (Z := (S, L)) (ci := 12) hk27) rfl (leK rfl) hk0 hn0 (tg_LP_sided (vI_at e_v25).2 e_p26) (kxB' ?_)
    refine wx_ifB_ne (pc := 133) (b := p26) (t := 140) (dK D_LP_exchangeReason_1 16 rfl) rfl (fun hc28 => ?_) (fun hc28 => ?_)
    · replace h := ifP h hc28
      refine x_aloadn (pc := 140) (i0 := 0) (j := 0) (dK D_LP_exchangeReason_1 19 rfl) rfl rfl ?_
      refine x_aload (pc := 141) (j := 5) (dK D_LP_exchangeReason_1 20 rfl) rfl ?_
      refine x_aload (pc := 143) (j := 5) (dK D_LP_exchangeReason_1 21 rfl) rfl ?_
      refine bnE h ?_
      clear h
      intro v29 e_v29 h
      refine wx_getI (pc := 145) (ci := 11) (f := 5) e_v29 (dK D_LP_exchangeReason_1 22 rfl) q_888 (ltK rfl) (ltK rfl) ?_
      refine gdE h ?_
      clear h
      intro hk31 h
      refine bnE h ?_
      clear h
      intro p30 e_p30 h
      refine x_callX (pc := 148) (As := [.ref c5, V v29]) (rest := [V a3]) (mc' := 0) (ms' := 0) (dK D_LP_exchangeReason_1 23 rfl) Q_LP_128 sx_LP_rival (fitK rfl) (isK_at (Z := (S, L)) (ci := 12) hk31) rfl (leK rfl) hk0 hn0 (tg_LP_rival (vI_at e_v29).2 e_p30) (kxB' ?_)
      refine wx_ifB_eq (pc := 151) (b := p30) (t := 159) (dK D_LP_exchangeReason_1 24 rfl) rfl (fun hc32 => ?_) (fun hc32 => ?_)
      · replace h := ifP h hc32
        refine wx_bipush (pc := 154) (dK D_LP_exchangeReason_1 25 rfl) rfl ?_
        refine x_goto (pc := 156) (tgt := 161) (dK D_LP_exchangeReason_1 26 rfl) rfl ?_
        refine wx_mmin (pc := 161) (dK D_LP_exchangeReason_1 28 rfl) q_1658 (leK rfl) (leK rfl) hk0 hn0 ha3 (inRk rfl) ?_
        refine x_istoren (pc := 164) (i0 := 3) (ls2 := [(3, V (i_min a3 6)), (0, .ref c0), (1, V a1), (2, V a2), (4, V a4), (5, .ref c5)]) (dK D_LP_exchangeReason_1 29 rfl) rfl (ltK rfl) rfl ?_
        refine nmE h ?_
        clear h
        intro v34 e_v34 h
        refine wx_iinc (pc := 165) (j := 4) (a := a4) (z := 1) (ls2 := [(4, V v34), (3, V (i_min a3 6)), (0, .ref c0), (1, V a1), (2, V a2), (5, .ref c5)]) (dK D_LP_exchangeReason_1 30 rfl) rfl e_v34 (ltK rfl) rfl ?_
        refine x_goto (pc := 168) (tgt := 48) (dK D_LP_exchangeReason_1 31 rfl) rfl ?_
        refine x_weak (ls' := [(0, .ref c0), (1, V a1), (2, V a2), (3, V (i_min a3 6)), (4, V v34)]) (sbc 2 rfl (sbc 3 rfl (sbc 4 rfl (sbc 1 rfl (sbc 0 rfl sbn))))) ?_
        replace h := ih _ _ h
        exact h (i_min_in ha3 (inRk rfl)) (Vn_in e_v34) hx
      · replace h := ifN h hc32
        refine wx_bipush (pc := 159) (dK D_LP_exchangeReason_1 27 rfl) rfl ?_
        refine wx_mmin (pc := 161) (dK D_LP_exchangeReason_1 28 rfl) q_1658 (leK rfl) (leK rfl) hk0 hn0 ha3 (inRk rfl) ?_
        refine x_istoren (pc := 164) (i0 := 3) (ls2 := [(3, V (i_min a3 9)), (0, .ref c0), (1, V a1), (2, V a2), (4, V a4), (5, .ref c5)]) (dK D_LP_exchangeReason_1 29 rfl) rfl (ltK rfl) rfl ?_
        refine nmE h ?_
        clear h
        intro v33 e_v33 h
        refine wx_iinc (pc := 165) (j := 4) (a := a4) (z := 1) (ls2 := [(4, V v33), (3, V (i_min a3 9)), (0, .ref c0), (1, V a1), (2, V a2), (5, .ref c5)]) (dK D_LP_exchangeReason_1 30 rfl) rfl e_v33 (ltK rfl) rfl ?_
        refine x_goto (pc := 168) (tgt := 48) (dK D_LP_exchangeReason_1 31 rfl) rfl ?_
        refine x_weak (ls' := [(0, .ref c0), (1, V a1), (2, V a2), (3, V (i_min a3 9)), (4, V v33)]) (sbc 2 rfl (sbc 3 rfl (sbc 4 rfl (sbc 1 rfl (sbc 0 rfl sbn))))) ?_
        replace h := ih _ _ h
        exact h (i_min_in ha3 (inRk rfl)) (Vn_in e_v33) hx
    · replace h := ifN h hc28
      refine wx_iconst (pc := 136) (dK D_LP_exchangeReason_1 17 rfl) ?_
      refine x_goto (pc := 137) (tgt := 161) (dK D_LP_exchangeReason_1 18 rfl) rfl ?_
      refine wx_mmin (pc := 161) (dK D_LP_exchangeReason_1 28 rfl) q_1658 (leK rfl) (leK rfl) hk0 hn0 ha3 (inRk rfl) ?_
      refine x_istoren (pc := 164) (i0 := 3) (ls2 := [(3, V (i_min a3 5)), (0, .ref c0), (1, V a1), (2, V a2), (4, V a4), (5, .ref c5)]) (dK D_LP_exchangeReason_1 29 rfl) rfl (ltK rfl) rfl ?_
      refine nmE h ?_
      clear h
      intro v35 e_v35 h
      refine wx_iinc (pc := 165) (j := 4) (a := a4) (z := 1) (ls2 := [(4, V v35), (3, V (i_min a3 5)), (0, .ref c0), (1, V a1), (2, V a2), (5, .ref c5)]) (dK D_LP_exchangeReason_1 30 rfl) rfl e_v35 (ltK rfl) rfl ?_
      refine x_goto (pc := 168) (tgt := 48) (dK D_LP_exchangeReason_1 31 rfl) rfl ?_
      refine x_weak (ls' := [(0, .ref c0), (1, V a1), (2, V a2), (3, V (i_min a3 5)), (4, V v35)]) (sbc 2 rfl (sbc 3 rfl (sbc 4 rfl (sbc 1 rfl (sbc 0 rfl sbn))))) ?_
      replace h := ih _ _ h
      exact h (i_min_in ha3 (inRk rfl)) (Vn_in e_v35) hx
  · replace h := ifN h hc55
    refine x_aloadn (pc := 101) (i0 := 0) (j := 0) (dK D_LP_exchangeReason_1 1 rfl) rfl rfl ?_
    refine bnE h ?_
    clear h
    intro v36 e_v36 h
    refine wx_getV (pc := 102) (ci := 12) (f := 7) e_v36 (dK D_LP_exchangeReason_1 2 rfl) q_781 (ltK rfl) (ltK rfl) (fun hv36 => ?_)
    refine x_aloadn (pc := 105) (i0 := 0) (j := 0) (dK D_LP_exchangeReason_1 3 rfl) rfl rfl ?_
    refine x_aload (pc := 106) (j := 5) (dK D_LP_exchangeReason_1 4 rfl) rfl ?_
    refine bnE h ?_
    clear h
    intro v37 e_v37 h
    refine wx_getI (pc := 108) (ci := 11) (f := 5) e_v37 (dK D_LP_exchangeReason_1 5 rfl) q_888 (ltK rfl) (ltK rfl) ?_
    refine gdE h ?_
    clear h
    intro hk39 h
    refine bnE h ?_
    clear h
    intro p38 e_p38 h
    refine x_callX (pc := 111) (As := [V v37]) (rest := [v36, V a3]) (mc' := 0) (ms' := 0) (dK D_LP_exchangeReason_1 6 rfl) Q_LP_79 sx_LP_form (fitK rfl) (isK_at (Z := (S, L)) (ci := 12) hk39) rfl (by simp only [List.map_cons, List.map_nil, cato hv36]; exact leK rfl) hk0 hn0 (tg_LP_form (vI_at e_v37).2 e_p38) (kxI' (fun h_p38 => ?_))
    refine rfE h ?_
    clear h
    intro r40 e_r40 h
    rw [e_r40]
    refine bnE h ?_
    clear h
    intro v41 e_v41 h
    refine wx_zald (pc := 114) e_v41 h_p38 (dK D_LP_exchangeReason_1 7 rfl) ?_
    refine wx_if_ne (pc := 115) (t := 122) (dK D_LP_exchangeReason_1 8 rfl) rfl (vI_at e_v41).2 (fun hc54 => ?_) (fun hc54 => ?_)
    · replace h := ifN h hc54
      refine x_aloadn (pc := 122) (i0 := 0) (j := 0) (dK D_LP_exchangeReason_1 11 rfl) rfl rfl ?_
      refine x_aload (pc := 123) (j := 5) (dK D_LP_exchangeReason_1 12 rfl) rfl ?_
      refine x_aload (pc := 125) (j := 5) (dK D_LP_exchangeReason_1 13 rfl) rfl ?_
      refine bnE h ?_
      clear h
      intro v42 e_v42 h
      refine wx_getI (pc := 127) (ci := 11) (f := 5) e_v42 (dK D_LP_exchangeReason_1 14 rfl) q_888 (ltK rfl) (ltK rfl) ?_
      refine gdE h ?_
      clear h
      intro hk44 h
      refine bnE h ?_
      clear h
      intro p43 e_p43 h
      refine x_callX (pc := 130) (As := [.ref c5, V v42]) (rest := [V a3]) (mc' := 0) (ms' := 0) (dK D_LP_exchangeReason_1 15 rfl) Q_LP_124 sx_LP_sided (fitK rfl) (isK_at (Z := (S, L)) (ci := 12) hk44) rfl (leK rfl) hk0 hn0 (tg_LP_sided (vI_at e_v42).2 e_p43) (kxB' ?_)
      refine wx_ifB_ne (pc := 133) (b := p43) (t := 140) (dK D_LP_exchangeReason_1 16 rfl) rfl (fun hc45 => ?_) (fun hc45 => ?_)
      · replace h := ifP h hc45
        refine x_aloadn (pc := 140) (i0 := 0) (j := 0) (dK D_LP_exchangeReason_1 19 rfl) rfl rfl ?_
        refine x_aload (pc := 141) (j := 5) (dK D_LP_exchangeReason_1 20 rfl) rfl ?_
        refine x_aload (pc := 143) (j := 5) (dK D_LP_exchangeReason_1 21 rfl) rfl ?_
        refine bnE h ?_
        clear h
        intro v46 e_v46 h
        refine wx_getI (pc := 145) (ci := 11) (f := 5) e_v46 (dK D_LP_exchangeReason_1 22 rfl) q_888 (ltK rfl) (ltK rfl) ?_
        refine gdE h ?_
        clear h
        intro hk48 h
        refine bnE h ?_
        clear h
        intro p47 e_p47 h
        refine x_callX (pc := 148) (As := [.ref c5, V v46]) (rest := [V a3]) (mc' := 0) (ms' := 0) (dK D_LP_exchangeReason_1 23 rfl) Q_LP_128 sx_LP_rival (fitK rfl) (isK_at (Z := (S, L)) (ci := 12) hk48) rfl (leK rfl) hk0 hn0 (tg_LP_rival (vI_at e_v46).2 e_p47) (kxB' ?_)
        refine wx_ifB_eq (pc := 151) (b := p47) (t := 159) (dK D_LP_exchangeReason_1 24 rfl) rfl (fun hc49 => ?_) (fun hc49 => ?_)
        · replace h := ifP h hc49
          refine wx_bipush (pc := 154) (dK D_LP_exchangeReason_1 25 rfl) rfl ?_
          refine x_goto (pc := 156) (tgt := 161) (dK D_LP_exchangeReason_1 26 rfl) rfl ?_
          refine wx_mmin (pc := 161) (dK D_LP_exchangeReason_1 28 rfl) q_1658 (leK rfl) (leK rfl) hk0 hn0 ha3 (inRk rfl) ?_
          refine x_istoren (pc := 164) (i0 := 3) (ls2 := [(3, V (i_min a3 6)), (0, .ref c0), (1, V a1), (2, V a2), (4, V a4), (5, .ref c5)]) (dK D_LP_exchangeReason_1 29 rfl) rfl (ltK rfl) rfl ?_
          refine nmE h ?_
          clear h
          intro v51 e_v51 h
          refine wx_iinc (pc := 165) (j := 4) (a := a4) (z := 1) (ls2 := [(4, V v51), (3, V (i_min a3 6)), (0, .ref c0), (1, V a1), (2, V a2), (5, .ref c5)]) (dK D_LP_exchangeReason_1 30 rfl) rfl e_v51 (ltK rfl) rfl ?_
          refine x_goto (pc := 168) (tgt := 48) (dK D_LP_exchangeReason_1 31 rfl) rfl ?_
          refine x_weak (ls' := [(0, .ref c0), (1, V a1), (2, V a2), (3, V (i_min a3 6)), (4, V v51)]) (sbc 2 rfl (sbc 3 rfl (sbc 4 rfl (sbc 1 rfl (sbc 0 rfl sbn))))) ?_
          replace h := ih _ _ h
          exact h (i_min_in ha3 (inRk rfl)) (Vn_in e_v51) hx
        · replace h := ifN h hc49
          refine wx_bipush (pc := 159) (dK D_LP_exchangeReason_1 27 rfl) rfl ?_
          refine wx_mmin (pc := 161) (dK D_LP_exchangeReason_1 28 rfl) q_1658 (leK rfl) (leK rfl) hk0 hn0 ha3 (inRk rfl) ?_
          refine x_istoren (pc := 164) (i0 := 3) (ls2 := [(3, V (i_min a3 9)), (0, .ref c0), (1, V a1), (2, V a2), (4, V a4), (5, .ref c5)]) (dK D_LP_exchangeReason_1 29 rfl) rfl (ltK rfl) rfl ?_
          refine nmE h ?_
          clear h
          intro v50 e_v50 h
          refine wx_iinc (pc := 165) (j := 4) (a := a4) (z := 1) (ls2 := [(4, V v50), (3, V (i_min a3 9)), (0, .ref c0), (1, V a1), (2, V a2), (5, .ref c5)]) (dK D_LP_exchangeReason_1 30 rfl) rfl e_v50 (ltK rfl) rfl ?_
          refine x_goto (pc := 168) (tgt := 48) (dK D_LP_exchangeReason_1 31 rfl) rfl ?_
          refine x_weak (ls' := [(0, .ref c0), (1, V a1), (2, V a2), (3, V (i_min a3 9)), (4, V v50)]) (sbc 2 rfl (sbc 3 rfl (sbc 4 rfl (sbc 1 rfl (sbc 0 rfl sbn))))) ?_
          replace h := ih _ _ h
          exact h (i_min_in ha3 (inRk rfl)) (Vn_in e_v50) hx
      · replace h := ifN h hc45
        refine wx_iconst (pc := 136) (dK D_LP_exchangeReason_1 17 rfl) ?_
        refine x_goto (pc := 137) (tgt := 161) (dK D_LP_exchangeReason_1 18 rfl) rfl ?_
        refine wx_mmin (pc := 161) (dK D_LP_exchangeReason_1 28 rfl) q_1658 (leK rfl) (leK rfl) hk0 hn0 ha3 (inRk rfl) ?_
        refine x_istoren (pc := 164) (i0 := 3) (ls2 := [(3, V (i_min a3 5)), (0, .ref c0), (1, V a1), (2, V a2), (4, V a4), (5, .ref c5)]) (dK D_LP_exchangeReason_1 29 rfl) rfl (ltK rfl) rfl ?_
        refine nmE h ?_
        clear h
        intro v52 e_v52 h
        refine wx_iinc (pc := 165) (j := 4) (a := a4) (z := 1) (ls2 := [(4, V v52), (3, V (i_min a3 5)), (0, .ref c0), (1, V a1), (2, V a2), (5, .ref c5)]) (dK D_LP_exchangeReason_1 30 rfl) rfl e_v52 (ltK rfl) rfl ?_
        refine x_goto (pc := 168) (tgt := 48) (dK D_LP_exchangeReason_1 31 rfl) rfl ?_
        refine x_weak (ls' := [(0, .ref c0), (1, V a1), (2, V a2), (3, V (i_min a3 5)), (4, V v52)]) (sbc 2 rfl (sbc 3 rfl (sbc 4 rfl (sbc 1 rfl (sbc 0 rfl sbn))))) ?_
        replace h := ih _ _ h
        exact h (i_min_in ha3 (inRk rfl)) (Vn_in e_v52) hx
    · replace h := ifP h hc54
      refine wx_iconst (pc := 118) (dK D_LP_exchangeReason_1 9 rfl) ?_
      refine x_goto (pc := 119) (tgt := 161) (dK D_LP_exchangeReason_1 10 rfl) rfl ?_
      refine wx_mmin (pc := 161) (dK D_LP_exchangeReason_1 28 rfl) q_1658 (leK rfl) (leK rfl) hk0 hn0 ha3 (inRk rfl) ?_
      refine x_istoren (pc := 164) (i0 := 3) (ls2 := [(3, V (i_min a3 4)), (0, .ref c0), (1, V a1), (2, V a2), (4, V a4), (5, .ref c5)]) (dK D_LP_exchangeReason_1 29 rfl) rfl (ltK rfl) rfl ?_
      refine nmE h ?_
      clear h
      intro v53 e_v53 h
      refine wx_iinc (pc := 165) (j := 4) (a := a4) (z := 1) (ls2 := [(4, V v53), (3, V (i_min a3 4)), (0, .ref c0), (1, V a1), (2, V a2), (5, .ref c5)]) (dK D_LP_exchangeReason_1 30 rfl) rfl e_v53 (ltK rfl) rfl ?_
      refine x_goto (pc := 168) (tgt := 48) (dK D_LP_exchangeReason_1 31 rfl) rfl ?_
      refine x_weak (ls' := [(0, .ref c0), (1, V a1), (2, V a2), (3, V (i_min a3 4)), (4, V v53)]) (sbc 2 rfl (sbc 3 rfl (sbc 4 rfl (sbc 1 rfl (sbc 0 rfl sbn))))) ?_
      replace h := ih _ _ h
      exact h (i_min_in ha3 (inRk rfl)) (Vn_in e_v53) hx
def lb2_LP_exchangeReason_48 (c0 : Nat) (a1 : Int) (a2 : Int) (S : St) (L : List PC) (go : Int × Int → Option (Int)) (a3 : Int) (a4 : Int) : Option (Int) := bnO (gfV L c0 12 4) fun v13 => rfB v13 fun r14 => if isK L r14 13 = true then (bnO (gn_AL_size r14 S L) fun p15 => if p15 ≤ a4 then (some a3) else (bnO (gfV L c0 12 4) fun v17 => rfB v17 fun r18 => if isK L r18 13 = true then (bnO (gn_AL_get r18 a4 S L) fun p19 => rfB p19 fun r21 => if isK L r21 11 = true then (bnO (gfI L r21 11 5) fun v23 => if v23 = a1 then (jf2_LP_exchangeReason_92_48 c0 a1 a2 S L go a3 a4 r21) else (bnO (gfI L r21 11 5) fun v56 => if v56 = a2 then (jf2_LP_exchangeReason_92_48 c0 a1 a2 S L go a3 a4 r21) else (nm (wr (a4 + 1)) fun v57 => go (a3, v57)))) else none) else none)) else none
def lo2_LP_exchangeReason_48 (c0 : Nat) (a1 : Int) (a2 : Int) (S : St) (L : List PC) : Nat → Int × Int → Option (Int) := lp fun go p => lb2_LP_exchangeReason_48 c0 a1 a2 S L go p.1 p.2
theorem tl2_LP_exchangeReason_48 {sc : SC} {c0 : Nat} {a1 : Int} (ha1 : inR a1) {a2 : Int} (ha2 : inR a2) {K : Option Value → List PC → Prop} {S : St} {L : List PC} {mc ms k n : Nat} (hk0 : k ≤ mc) (hn0 : n ≤ ms) : ∀ (N : Nat) (a : Int × Int) (q : Int), lo2_LP_exchangeReason_48 c0 a1 a2 S L N a = some q → inR a.1 → inR a.2 → (inR q → GX sc M_LP_exchangeReason mc ms 171 [(0, .ref c0), (1, V a1), (2, V a2), (3, V q)] [] (wz (S, L)) k n K) → GX sc M_LP_exchangeReason mc ms 48 [(0, .ref c0), (1, V a1), (2, V a2), (3, V a.1), (4, V a.2)] [] (wz (S, L)) k n K := by
  refine lp_ind2 (P := fun (a : Int × Int) (q : Int) => inR a.1 → inR a.2 → (inR q → GX sc M_LP_exchangeReason mc ms 171 [(0, .ref c0), (1, V a1), (2, V a2), (3, V q)] [] (wz (S, L)) k n K) → GX sc M_LP_exchangeReason mc ms 48 [(0, .ref c0), (1, V a1), (2, V a2), (3, V a.1), (4, V a.2)] [] (wz (S, L)) k n K) (fun go ih a q h => ?_)
  obtain ⟨a3, a4⟩ := a
  intro ha3 ha4 hx
  show GX sc M_LP_exchangeReason mc ms 48 [(0, .ref c0), (1, V a1), (2, V a2), (3, V a3), (4, V a4)] [] (wz (S, L)) k n K
  replace h : lb2_LP_exchangeReason_48 c0 a1 a2 S L go a3 a4 = some q := h
  unfold lb2_LP_exchangeReason_48 at h
  refine x_iload (pc := 48) (j := 4) (dK D_LP_exchangeReason_0 28 rfl) rfl ?_
  refine x_aloadn (pc := 50) (i0 := 0) (j := 0) (dK D_LP_exchangeReason_0 29 rfl) rfl rfl ?_
  refine bnE h ?_
  clear h
  intro v13 e_v13 h
  refine wx_getV (pc := 51) (ci := 12) (f := 4) e_v13 (dK D_LP_exchangeReason_0 30 rfl) q_775 (ltK rfl) (ltK rfl) (fun hv13 => ?_)
  refine rfE h ?_
  clear h
  intro r14 e_r14 h
  rw [e_r14]
  refine gdE h ?_
  clear h
  intro hk16 h
  refine bnE h ?_
  clear h
  intro p15 e_p15 h
  refine x_callX (pc := 54) (As := []) (rest := [V a4]) (mc' := 0) (ms' := 0) (dK D_LP_exchangeReason_0 31 rfl) Q_LP_83 sx_AL_size (fitK rfl) (isK_at (Z := (S, L)) (ci := 13) hk16) rfl (leK rfl) hk0 hn0 (tg_AL_size  e_p15) (kxI' (fun h_p15 => ?_))
  refine wx_icmp_ge (pc := 57) (t := 171) (dK D_LP_exchangeReason_0 32 rfl) rfl ha4 h_p15 (fun hc60 => ?_) (fun hc60 => ?_)
  · replace h := ifP h hc60
    obtain rfl := Option.some.inj h
    refine x_weak (ls' := [(0, .ref c0), (1, V a1), (2, V a2), (3, V a3)]) (sbc 0 rfl (sbc 1 rfl (sbc 2 rfl (sbc 3 rfl sbn)))) ?_
    exact hx ha3
  · replace h := ifN h hc60
    refine x_aloadn (pc := 60) (i0 := 0) (j := 0) (dK D_LP_exchangeReason_0 33 rfl) rfl rfl ?_
    refine bnE h ?_
    clear h
    intro v17 e_v17 h
    refine wx_getV (pc := 61) (ci := 12) (f := 4) e_v17 (dK D_LP_exchangeReason_0 34 rfl) q_775 (ltK rfl) (ltK rfl) (fun hv17 => ?_)
    refine x_iload (pc := 64) (j := 4) (dK D_LP_exchangeReason_0 35 rfl) rfl ?_
    refine rfE h ?_
    clear h
    intro r18 e_r18 h
    rw [e_r18]
    refine gdE h ?_
    clear h
    intro hk20 h
    refine bnE h ?_
    clear h
    intro p19 e_p19 h
    refine x_callX (pc := 66) (As := [V a4]) (rest := []) (mc' := 0) (ms' := 0) (dK D_LP_exchangeReason_0 36 rfl) Q_LP_87 sx_AL_get (fitK rfl) (isK_at (Z := (S, L)) (ci := 13) hk20) rfl (leK rfl) hk0 hn0 (tg_AL_get ha4 e_p19) (kxR (fun h_p19 => ?_))
    refine rfE h ?_
    clear h
    intro r21 e_r21 h
    rw [e_r21]
    refine gdE h ?_
    clear h
    intro hk22 h
    refine x_cast (pc := 69) (dK D_LP_exchangeReason_0 37 rfl) q_861 (isK_at (Z := (S, L)) (ci := 11) hk22) ?_
    refine x_astore (pc := 72) (ls2 := [(5, .ref r21), (0, .ref c0), (1, V a1), (2, V a2), (3, V a3), (4, V a4)]) (dK D_LP_exchangeReason_0 38 rfl) (ltK rfl) rfl ?_
    refine x_aload (pc := 74) (j := 0) (dK D_LP_exchangeReason_0 39 rfl) rfl ?_
    refine bnE h ?_
    clear h
    intro v23 e_v23 h
    refine wx_getI (pc := 76) (ci := 11) (f := 5) e_v23 (dK D_LP_exchangeReason_0 40 rfl) q_888 (ltK rfl) (ltK rfl) ?_
    refine x_iloadn (pc := 79) (i0 := 1) (j := 2) (dK D_LP_exchangeReason_0 41 rfl) rfl rfl ?_
    refine wx_icmp_eq (pc := 80) (t := 92) (dK D_LP_exchangeReason_0 42 rfl) rfl (vI_at e_v23).2 ha1 (fun hc59 => ?_) (fun hc59 => ?_)
    · replace h := ifP h hc59
      refine x_weak (ls' := [(0, .ref c0), (1, V a1), (2, V a2), (3, V a3), (4, V a4), (5, .ref r21)]) (sbc 1 rfl (sbc 2 rfl (sbc 3 rfl (sbc 4 rfl (sbc 5 rfl (sbc 0 rfl sbn)))))) ?_
      exact tj2_LP_exchangeReason_92_48 ha1 ha2 hk0 hn0 ih ha3 ha4 h hx
    · replace h := ifN h hc59
      refine x_aload (pc := 83) (j := 0) (dK D_LP_exchangeReason_0 43 rfl) rfl ?_
      refine bnE h ?_
      clear h
      intro v56 e_v56 h
      refine wx_getI (pc := 85) (ci := 11) (f := 5) e_v56 (dK D_LP_exchangeReason_0 44 rfl) q_888 (ltK rfl) (ltK rfl) ?_
      refine x_iloadn (pc := 88) (i0 := 2) (j := 3) (dK D_LP_exchangeReason_0 45 rfl) rfl rfl ?_
      refine wx_icmp_ne (pc := 89) (t := 165) (dK D_LP_exchangeReason_0 46 rfl) rfl (vI_at e_v56).2 ha2 (fun hc58 => ?_) (fun hc58 => ?_)
      · replace h := ifN h hc58
        refine nmE h ?_
        clear h
        intro v57 e_v57 h
        refine wx_iinc (pc := 165) (j := 5) (a := a4) (z := 1) (ls2 := [(4, V v57), (5, .ref r21), (0, .ref c0), (1, V a1), (2, V a2), (3, V a3)]) (dK D_LP_exchangeReason_1 30 rfl) rfl e_v57 (ltK rfl) rfl ?_
        refine x_goto (pc := 168) (tgt := 48) (dK D_LP_exchangeReason_1 31 rfl) rfl ?_
        refine x_weak (ls' := [(0, .ref c0), (1, V a1), (2, V a2), (3, V a3), (4, V v57)]) (sbc 2 rfl (sbc 3 rfl (sbc 4 rfl (sbc 5 rfl (sbc 0 rfl sbn))))) ?_
        replace h := ih _ _ h
        exact h ha3 (Vn_in e_v57) hx
      · replace h := ifP h hc58
        refine x_weak (ls' := [(0, .ref c0), (1, V a1), (2, V a2), (3, V a3), (4, V a4), (5, .ref r21)]) (sbc 1 rfl (sbc 2 rfl (sbc 3 rfl (sbc 4 rfl (sbc 5 rfl (sbc 0 rfl sbn)))))) ?_
        exact tj2_LP_exchangeReason_92_48 ha1 ha2 hk0 hn0 ih ha3 ha4 h hx
def gn_LP_exchangeReason (c0 : Nat) (a1 : Int) (a2 : Int) (S : St) (L : List PC) : Option ((Int × LZ) × Nat × Nat) := if isK L c0 12 = true then (bnO (gn_LP_isShut c0 a1 S L) fun p1 => if p1 = true then (some ((2, (S, L)), 0, 0)) else (if isK L c0 12 = true then (bnO (gn_LP_isShut c0 a2 S L) fun p4 => if p4 = true then (some ((2, (S, L)), 0, 0)) else (if isK L c0 12 = true then (bnO (gn_LP_story c0 a1 S L) fun p7 => if 0 ≤ p7 then (some ((3, (S, L)), 0, 0)) else (if isK L c0 12 = true then (bnO (gn_LP_story c0 a2 S L) fun p9 => if p9 < 0 then (if isK L c0 12 = true then (bnO (gn_LP_swap c0 a1 a2 S L) fun p11 => adC p11.2.1 p11.2.2 (bnO (lo2_LP_exchangeReason_48 c0 a1 a2 p11.1.1 p11.1.2 FU (9, 0)) fun p61 => if isK p11.1.2 c0 12 = true then (bnO (gn_LP_swap c0 a1 a2 p11.1.1 p11.1.2) fun p62 => adC p62.2.1 p62.2.2 (if p61 = 9 then (some ((0, (p62.1.1, p62.1.2)), 0, 0)) else (some ((p61, (p62.1.1, p62.1.2)), 0, 0)))) else none)) else none) else (some ((3, (S, L)), 0, 0))) else none)) else none)) else none)) else none
theorem te_LP_exchangeReason {sc : SC} {c0 : Nat} {a1 : Int} (ha1 : inR a1) {a2 : Int} (ha2 : inR a2) {S : St} {L : List PC} {q : (Int × LZ) × Nat × Nat} (h : gn_LP_exchangeReason c0 a1 a2 S L = some q) {mc ms k n : Nat} (hb : Bd k n mc ms q) : GX sc M_LP_exchangeReason mc ms 0 [(0, .ref c0), (1, V a1), (2, V a2)] [] (wz (S, L)) k n (KXI q.1.1 q.1.2) := by
  unfold gn_LP_exchangeReason at h
  refine x_aloadn (pc := 0) (i0 := 0) (j := 0) (dK D_LP_exchangeReason_0 0 rfl) rfl rfl ?_
  refine x_iloadn (pc := 1) (i0 := 1) (j := 1) (dK D_LP_exchangeReason_0 1 rfl) rfl rfl ?_
  refine gdE h ?_
  clear h
  intro hk2 h
  refine bnE h ?_
  clear h
  intro p1 e_p1 h
  refine x_callX (pc := 2) (As := [V a1]) (rest := []) (mc' := 0) (ms' := 0) (dK D_LP_exchangeReason_0 2 rfl) Q_LP_117 sx_LP_isShut (fitK rfl) (isK_at (Z := (S, L)) (ci := 12) hk2) rfl (leK rfl) (bdk hb) (bdn hb) (tg_LP_isShut ha1 e_p1) (kxB' ?_)
  refine wx_ifB_ne (pc := 5) (b := p1) (t := 16) (dK D_LP_exchangeReason_0 3 rfl) rfl (fun hc3 => ?_) (fun hc3 => ?_)
  · replace h := ifP h hc3
    refine wx_iconst (pc := 16) (dK D_LP_exchangeReason_0 8 rfl) ?_
    obtain rfl := Option.some.inj h
    exact wk_iretI (pc := 17) (dK D_LP_exchangeReason_0 9 rfl) rfl (bdk hb) (bdn hb) ⟨rfl, (inRk rfl), rfl⟩
  · replace h := ifN h hc3
    refine x_aloadn (pc := 8) (i0 := 0) (j := 0) (dK D_LP_exchangeReason_0 4 rfl) rfl rfl ?_
    refine x_iloadn (pc := 9) (i0 := 2) (j := 2) (dK D_LP_exchangeReason_0 5 rfl) rfl rfl ?_
    refine gdE h ?_
    clear h
    intro hk5 h
    refine bnE h ?_
    clear h
    intro p4 e_p4 h
    refine x_callX (pc := 10) (As := [V a2]) (rest := []) (mc' := 0) (ms' := 0) (dK D_LP_exchangeReason_0 6 rfl) Q_LP_117 sx_LP_isShut (fitK rfl) (isK_at (Z := (S, L)) (ci := 12) hk5) rfl (leK rfl) (bdk hb) (bdn hb) (tg_LP_isShut ha2 e_p4) (kxB' ?_)
    refine wx_ifB_eq (pc := 13) (b := p4) (t := 18) (dK D_LP_exchangeReason_0 7 rfl) rfl (fun hc6 => ?_) (fun hc6 => ?_)
    · replace h := ifP h hc6
      refine wx_iconst (pc := 16) (dK D_LP_exchangeReason_0 8 rfl) ?_
      obtain rfl := Option.some.inj h
      exact wk_iretI (pc := 17) (dK D_LP_exchangeReason_0 9 rfl) rfl (bdk hb) (bdn hb) ⟨rfl, (inRk rfl), rfl⟩
    · replace h := ifN h hc6
      refine x_aloadn (pc := 18) (i0 := 0) (j := 0) (dK D_LP_exchangeReason_0 10 rfl) rfl rfl ?_
      refine x_iloadn (pc := 19) (i0 := 1) (j := 1) (dK D_LP_exchangeReason_0 11 rfl) rfl rfl ?_
      refine gdE h ?_
      clear h
      intro hk8 h
      refine bnE h ?_
      clear h
      intro p7 e_p7 h
      refine x_callX (pc := 20) (As := [V a1]) (rest := []) (mc' := 0) (ms' := 0) (dK D_LP_exchangeReason_0 12 rfl) Q_LP_102 sx_LP_story (fitK rfl) (isK_at (Z := (S, L)) (ci := 12) hk8) rfl (leK rfl) (bdk hb) (bdn hb) (tg_LP_story ha1 e_p7) (kxI' (fun h_p7 => ?_))
      refine wx_if_ge (pc := 23) (t := 34) (dK D_LP_exchangeReason_0 13 rfl) rfl h_p7 (fun hc66 => ?_) (fun hc66 => ?_)
      · replace h := ifP h hc66
        refine wx_iconst (pc := 34) (dK D_LP_exchangeReason_0 18 rfl) ?_
        obtain rfl := Option.some.inj h
        exact wk_iretI (pc := 35) (dK D_LP_exchangeReason_0 19 rfl) rfl (bdk hb) (bdn hb) ⟨rfl, (inRk rfl), rfl⟩
      · replace h := ifN h hc66
        refine x_aloadn (pc := 26) (i0 := 0) (j := 0) (dK D_LP_exchangeReason_0 14 rfl) rfl rfl ?_
        refine x_iloadn (pc := 27) (i0 := 2) (j := 2) (dK D_LP_exchangeReason_0 15 rfl) rfl rfl ?_
        refine gdE h ?_
        clear h
        intro hk10 h
        refine bnE h ?_
        clear h
        intro p9 e_p9 h
        refine x_callX (pc := 28) (As := [V a2]) (rest := []) (mc' := 0) (ms' := 0) (dK D_LP_exchangeReason_0 16 rfl) Q_LP_102 sx_LP_story (fitK rfl) (isK_at (Z := (S, L)) (ci := 12) hk10) rfl (leK rfl) (bdk hb) (bdn hb) (tg_LP_story ha2 e_p9) (kxI' (fun h_p9 => ?_))
        refine wx_if_lt (pc := 31) (t := 36) (dK D_LP_exchangeReason_0 17 rfl) rfl h_p9 (fun hc65 => ?_) (fun hc65 => ?_)
        · replace h := ifP h hc65
          refine x_aloadn (pc := 36) (i0 := 0) (j := 0) (dK D_LP_exchangeReason_0 20 rfl) rfl rfl ?_
          refine x_iloadn (pc := 37) (i0 := 1) (j := 1) (dK D_LP_exchangeReason_0 21 rfl) rfl rfl ?_
          refine x_iloadn (pc := 38) (i0 := 2) (j := 2) (dK D_LP_exchangeReason_0 22 rfl) rfl rfl ?_
          refine gdE h ?_
          clear h
          intro hk12 h
          refine bnE h ?_
          clear h
          intro p11 e_p11 h
          obtain ⟨yp11, h9, e9⟩ := adE2 h
          clear h
          subst e9
          have h := h9
          clear h9
          have hk1 := bd1 hb
          have hn1 := bd2 hb
          replace hb := bdA hb
          refine x_callX (pc := 39) (As := [V a1, V a2]) (rest := []) (mc' := p11.2.1) (ms' := p11.2.2) (dK D_LP_exchangeReason_0 23 rfl) Q_LP_160 sx_LP_swap (fitK rfl) (isK_at (Z := (S, L)) (ci := 12) hk12) rfl (leK rfl) hk1 hn1 (tg_LP_swap ha1 ha2 e_p11) (kxU ?_)
          refine wx_bipush (pc := 42) (dK D_LP_exchangeReason_0 24 rfl) rfl ?_
          refine x_istoren (pc := 44) (i0 := 3) (ls2 := [(3, V 9), (0, .ref c0), (1, V a1), (2, V a2)]) (dK D_LP_exchangeReason_0 25 rfl) rfl (ltK rfl) rfl ?_
          refine wx_iconst (pc := 45) (dK D_LP_exchangeReason_0 26 rfl) ?_
          refine x_istore (pc := 46) (ls2 := [(4, V 0), (3, V 9), (0, .ref c0), (1, V a1), (2, V a2)]) (dK D_LP_exchangeReason_0 27 rfl) (ltK rfl) rfl ?_
          refine bnE h ?_
          clear h
          intro p61 e_p61 h
          refine x_weak (ls' := [(0, .ref c0), (1, V a1), (2, V a2), (3, V 9), (4, V 0)]) (sbc 2 rfl (sbc 3 rfl (sbc 4 rfl (sbc 1 rfl (sbc 0 rfl sbn))))) ?_
          refine tl2_LP_exchangeReason_48 ha1 ha2 (bdk hb) (bdn hb) FU _ _ e_p61 (inRk rfl) (inRk rfl) (fun hx3_p61 => ?_)
          refine x_aloadn (pc := 171) (i0 := 0) (j := 0) (dK D_LP_exchangeReason_1 32 rfl) rfl rfl ?_
          refine x_iloadn (pc := 172) (i0 := 1) (j := 1) (dK D_LP_exchangeReason_1 33 rfl) rfl rfl ?_
          refine x_iloadn (pc := 173) (i0 := 2) (j := 2) (dK D_LP_exchangeReason_1 34 rfl) rfl rfl ?_
          refine gdE h ?_
          clear h
          intro hk63 h
          refine bnE h ?_
          clear h
          intro p62 e_p62 h
          obtain ⟨yp62, h9, e9⟩ := adE2 h
          clear h
          subst e9
          have h := h9
          clear h9
          have hk1 := bd1 hb
          have hn1 := bd2 hb
          replace hb := bdA hb
          refine x_callX (pc := 174) (As := [V a1, V a2]) (rest := []) (mc' := p62.2.1) (ms' := p62.2.2) (dK D_LP_exchangeReason_1 35 rfl) Q_LP_160 sx_LP_swap (fitK rfl) (isK_at (Z := (p11.1.1, p11.1.2)) (ci := 12) hk63) rfl (leK rfl) hk1 hn1 (tg_LP_swap ha1 ha2 e_p62) (kxU ?_)
          refine x_iloadn (pc := 177) (i0 := 3) (j := 3) (dK D_LP_exchangeReason_1 36 rfl) rfl rfl ?_
          refine wx_bipush (pc := 178) (dK D_LP_exchangeReason_1 37 rfl) rfl ?_
          refine wx_icmp_ne (pc := 180) (t := 187) (dK D_LP_exchangeReason_1 38 rfl) rfl hx3_p61 (inRk rfl) (fun hc64 => ?_) (fun hc64 => ?_)
          · replace h := ifN h hc64
            refine x_iloadn (pc := 187) (i0 := 3) (j := 3) (dK D_LP_exchangeReason_1 41 rfl) rfl rfl ?_
            obtain rfl := Option.some.inj h
            exact wk_iretI (pc := 188) (dK D_LP_exchangeReason_1 42 rfl) rfl (bdk hb) (bdn hb) ⟨rfl, hx3_p61, rfl⟩
          · replace h := ifP h hc64
            refine wx_iconst (pc := 183) (dK D_LP_exchangeReason_1 39 rfl) ?_
            refine x_goto (pc := 184) (tgt := 188) (dK D_LP_exchangeReason_1 40 rfl) rfl ?_
            obtain rfl := Option.some.inj h
            exact wk_iretI (pc := 188) (dK D_LP_exchangeReason_1 42 rfl) rfl (bdk hb) (bdn hb) ⟨rfl, (inRk rfl), rfl⟩
        · replace h := ifN h hc65
          refine wx_iconst (pc := 34) (dK D_LP_exchangeReason_0 18 rfl) ?_
          obtain rfl := Option.some.inj h
          exact wk_iretI (pc := 35) (dK D_LP_exchangeReason_0 19 rfl) rfl (bdk hb) (bdn hb) ⟨rfl, (inRk rfl), rfl⟩
theorem tg_LP_exchangeReason {sc : SC} {c0 : Nat} {a1 : Int} (ha1 : inR a1) {a2 : Int} (ha2 : inR a2) {S : St} {L : List PC} {q : (Int × LZ) × Nat × Nat} (h : gn_LP_exchangeReason c0 a1 a2 S L = some q) : EvX sc M_LP_exchangeReason [.ref c0, V a1, V a2] (wz (S, L)) q.2.1 q.2.2 (KXI q.1.1 q.1.2) := EvX.of pn2_LP rfl (leK rfl) (te_LP_exchangeReason ha1 ha2 h ⟨Nat.le_of_eq (Nat.zero_add _), Nat.le_of_eq (Nat.zero_add _)⟩)
def jf2_Law_better_75_34 (c1 : Nat) (a4 : Int) (go : Int × Int × Int × LZ → Option ((Int × Int × LZ) × Nat × Nat)) (a2 : Int) (a3 : Int) (a5 : Int) (S : St) (L : List PC) : Option ((Int × Int × LZ) × Nat × Nat) := if isK L c1 12 = true then (bnO (gn_LP_exchangeReason c1 a4 a5 S L) fun p18 => adC p18.2.1 p18.2.2 (if p18.1.1 ≤ 0 then (if isK p18.1.2.2 c1 12 = true then (bnO (gn_LP_swap c1 a4 a5 p18.1.2.1 p18.1.2.2) fun p20 => adC p20.2.1 p20.2.2 (if isK p20.1.2 c1 12 = true then (bnO (gn_LP_colored c1 p20.1.1 p20.1.2) fun p22 => adC p22.2.1 p22.2.2 (if isK p22.1.2.2 c1 12 = true then (bnO (gn_LP_swap c1 a4 a5 p22.1.2.1 p22.1.2.2) fun p24 => adC p24.2.1 p24.2.2 (if p22.1.1 < a3 then (nm (wr ((100 * a4) + a5)) fun v26 => nm (wr (a5 + 1)) fun v27 => go (v26, p22.1.1, v27, (p24.1.1, p24.1.2))) else (nm (wr (a5 + 1)) fun v28 => go (a2, a3, v28, (p24.1.1, p24.1.2))))) else none)) else none)) else none) else (nm (wr (a5 + 1)) fun v30 => go (a2, a3, v30, (p18.1.2.1, p18.1.2.2))))) else none
theorem tj2_Law_better_75_34 {sc : SC} {c1 : Nat} {a4 : Int} (ha4 : inR a4) {K : Option Value → List PC → Prop} {mc ms kt nt : Nat} (hkt : kt ≤ mc) (hnt : nt ≤ ms) {go : Int × Int × Int × LZ → Option ((Int × Int × LZ) × Nat × Nat)} (ih : ∀ (a : Int × Int × Int × LZ) (q : (Int × Int × LZ) × Nat × Nat), go a = some q → ∀ k n, Bd k n kt nt q → inR a.1 → inR a.2.1 → inR a.2.2.1 → (inR q.1.1 → inR q.1.2.1 → GX sc M_Law_better mc ms 138 [(0, .ref 0), (1, .ref c1), (2, V q.1.1), (3, V q.1.2.1), (4, V a4)] [] (wz q.1.2.2) kt nt K) → GX sc M_Law_better mc ms 34 [(0, .ref 0), (1, .ref c1), (2, V a.1), (3, V a.2.1), (4, V a4), (5, V a.2.2.1)] [] (wz a.2.2.2) k n K) {a2 : Int} (ha2 : inR a2) {a3 : Int} (ha3 : inR a3) {a5 : Int} (ha5 : inR a5) {S : St} {L : List PC} {q : (Int × Int × LZ) × Nat × Nat} (h : jf2_Law_better_75_34 c1 a4 go a2 a3 a5 S L = some q) {k n : Nat} (hb : Bd k n kt nt q) (hx : (inR q.1.1 → inR q.1.2.1 → GX sc M_Law_better mc ms 138 [(0, .ref 0), (1, .ref c1), (2, V q.1.1), (3, V q.1.2.1), (4, V a4)] [] (wz q.1.2.2) kt nt K)) : GX sc M_Law_better mc ms 75 [(0, .ref 0), (1, .ref c1), (2, V a2), (3, V a3), (4, V a4), (5, V a5)] [] (wz (S, L)) k n K := by
  unfold jf2_Law_better_75_34 at h
  refine x_aloadn (pc := 75) (i0 := 1) (j := 1) (dK D_Law_better_0 37 rfl) rfl rfl ?_
  refine x_iload (pc := 76) (j := 4) (dK D_Law_better_0 38 rfl) rfl ?_
  refine x_iload (pc := 78) (j := 5) (dK D_Law_better_0 39 rfl) rfl ?_
  refine gdE h ?_
  clear h
  intro hk19 h
  refine bnE h ?_
  clear h
  intro p18 e_p18 h
  obtain ⟨yp18, h9, e9⟩ := adE2 h
  clear h
  subst e9
  have h := h9
  clear h9
  have hk1 := Nat.le_trans (bd1 hb) hkt
  have hn1 := Nat.le_trans (bd2 hb) hnt
  replace hb := bdA hb
  refine x_callX (pc := 80) (As := [V a4, V a5]) (rest := []) (mc' := p18.2.1) (ms' := p18.2.2) (dK D_Law_better_0 40 rfl) Q_Law_352 sx_LP_exchangeReason (fitK rfl) (isK_at (Z := (S, L)) (ci := 12) hk19) rfl (leK rfl) hk1 hn1 (tg_LP_exchangeReason ha4 ha5 e_p18) (kxI' (fun h_p18 => ?_))
  refine wx_if_le (pc := 83) (t := 89) (dK D_Law_better_0 41 rfl) rfl h_p18 (fun hc31 => ?_) (fun hc31 => ?_)
  · replace h := ifP h hc31
    refine x_aloadn (pc := 89) (i0 := 1) (j := 1) (dK D_Law_better_0 43 rfl) rfl rfl ?_
    refine x_iload (pc := 90) (j := 4) (dK D_Law_better_0 44 rfl) rfl ?_
    refine x_iload (pc := 92) (j := 5) (dK D_Law_better_0 45 rfl) rfl ?_
    refine gdE h ?_
    clear h
    intro hk21 h
    refine bnE h ?_
    clear h
    intro p20 e_p20 h
    obtain ⟨yp20, h9, e9⟩ := adE2 h
    clear h
    subst e9
    have h := h9
    clear h9
    have hk1 := Nat.le_trans (bd1 hb) hkt
    have hn1 := Nat.le_trans (bd2 hb) hnt
    replace hb := bdA hb
    refine x_callX (pc := 94) (As := [V a4, V a5]) (rest := []) (mc' := p20.2.1) (ms' := p20.2.2) (dK D_Law_better_0 46 rfl) Q_Law_355 sx_LP_swap (fitK rfl) (isK_at (Z := (p18.1.2.1, p18.1.2.2)) (ci := 12) hk21) rfl (leK rfl) hk1 hn1 (tg_LP_swap ha4 ha5 e_p20) (kxU ?_)
    refine x_aloadn (pc := 97) (i0 := 1) (j := 1) (dK D_Law_better_0 47 rfl) rfl rfl ?_
    refine gdE h ?_
    clear h
    intro hk23 h
    refine bnE h ?_
    clear h
    intro p22 e_p22 h
    obtain ⟨yp22, h9, e9⟩ := adE2 h
    clear h
    subst e9
    have h := h9
    clear h9
    have hk1 := Nat.le_trans (bd1 hb) hkt
    have hn1 := Nat.le_trans (bd2 hb) hnt
    replace hb := bdA hb
    refine x_callX (pc := 98) (As := []) (rest := []) (mc' := p22.2.1) (ms' := p22.2.2) (dK D_Law_better_0 48 rfl) Q_Law_349 sx_LP_colored (fitK rfl) (isK_at (Z := (p20.1.1, p20.1.2)) (ci := 12) hk23) rfl (leK rfl) hk1 hn1 (tg_LP_colored  e_p22) (kxI' (fun h_p22 => ?_))
    refine x_istore (pc := 101) (ls2 := [(6, V p22.1.1), (0, .ref 0), (1, .ref c1), (2, V a2), (3, V a3), (4, V a4), (5, V a5)]) (dK D_Law_better_0 49 rfl) (ltK rfl) rfl ?_
    refine x_aloadn (pc := 103) (i0 := 1) (j := 2) (dK D_Law_better_1 0 rfl) rfl rfl ?_
    refine x_iload (pc := 104) (j := 5) (dK D_Law_better_1 1 rfl) rfl ?_
    refine x_iload (pc := 106) (j := 6) (dK D_Law_better_1 2 rfl) rfl ?_
    refine gdE h ?_
    clear h
    intro hk25 h
    refine bnE h ?_
    clear h
    intro p24 e_p24 h
    obtain ⟨yp24, h9, e9⟩ := adE2 h
    clear h
    subst e9
    have h := h9
    clear h9
    have hk1 := Nat.le_trans (bd1 hb) hkt
    have hn1 := Nat.le_trans (bd2 hb) hnt
    replace hb := bdA hb
    refine x_callX (pc := 108) (As := [V a4, V a5]) (rest := []) (mc' := p24.2.1) (ms' := p24.2.2) (dK D_Law_better_1 3 rfl) Q_Law_355 sx_LP_swap (fitK rfl) (isK_at (Z := (p22.1.2.1, p22.1.2.2)) (ci := 12) hk25) rfl (leK rfl) hk1 hn1 (tg_LP_swap ha4 ha5 e_p24) (kxU ?_)
    refine x_iload (pc := 111) (j := 0) (dK D_Law_better_1 4 rfl) rfl ?_
    refine x_iloadn (pc := 113) (i0 := 3) (j := 4) (dK D_Law_better_1 5 rfl) rfl rfl ?_
    refine wx_icmp_lt (pc := 114) (t := 120) (dK D_Law_better_1 6 rfl) rfl h_p22 ha3 (fun hc29 => ?_) (fun hc29 => ?_)
    · replace h := ifP h hc29
      refine x_iload (pc := 120) (j := 0) (dK D_Law_better_1 8 rfl) rfl ?_
      refine x_istoren (pc := 122) (i0 := 3) (ls2 := [(3, V p22.1.1), (6, V p22.1.1), (0, .ref 0), (1, .ref c1), (2, V a2), (4, V a4), (5, V a5)]) (dK D_Law_better_1 9 rfl) rfl (ltK rfl) rfl ?_
      refine wx_bipush (pc := 123) (dK D_Law_better_1 10 rfl) rfl ?_
      refine x_iload (pc := 125) (j := 5) (dK D_Law_better_1 11 rfl) rfl ?_
      refine wx_imul (pc := 127) (dK D_Law_better_1 12 rfl) ?_
      refine x_iload (pc := 128) (j := 6) (dK D_Law_better_1 13 rfl) rfl ?_
      refine wx_iadd (pc := 130) (dK D_Law_better_1 14 rfl) ?_
      refine nmE h ?_
      clear h
      intro v26 e_v26 h
      refine wtop e_v26 ?_
      refine x_istoren (pc := 131) (i0 := 2) (ls2 := [(2, V v26), (3, V p22.1.1), (6, V p22.1.1), (0, .ref 0), (1, .ref c1), (4, V a4), (5, V a5)]) (dK D_Law_better_1 15 rfl) rfl (ltK rfl) rfl ?_
      refine nmE h ?_
      clear h
      intro v27 e_v27 h
      refine wx_iinc (pc := 132) (j := 6) (a := a5) (z := 1) (ls2 := [(5, V v27), (2, V v26), (3, V p22.1.1), (6, V p22.1.1), (0, .ref 0), (1, .ref c1), (4, V a4)]) (dK D_Law_better_1 16 rfl) rfl e_v27 (ltK rfl) rfl ?_
      refine x_goto (pc := 135) (tgt := 34) (dK D_Law_better_1 17 rfl) rfl ?_
      refine x_weak (ls' := [(0, .ref 0), (1, .ref c1), (2, V v26), (3, V p22.1.1), (4, V a4), (5, V v27)]) (sbc 4 rfl (sbc 5 rfl (sbc 1 rfl (sbc 2 rfl (sbc 6 rfl (sbc 0 rfl sbn)))))) ?_
      replace h := ih _ _ h
      exact h _ _ hb (Vn_in e_v26) h_p22 (Vn_in e_v27) hx
    · replace h := ifN h hc29
      refine x_goto (pc := 117) (tgt := 132) (dK D_Law_better_1 7 rfl) rfl ?_
      refine nmE h ?_
      clear h
      intro v28 e_v28 h
      refine wx_iinc (pc := 132) (j := 6) (a := a5) (z := 1) (ls2 := [(5, V v28), (6, V p22.1.1), (0, .ref 0), (1, .ref c1), (2, V a2), (3, V a3), (4, V a4)]) (dK D_Law_better_1 16 rfl) rfl e_v28 (ltK rfl) rfl ?_
      refine x_goto (pc := 135) (tgt := 34) (dK D_Law_better_1 17 rfl) rfl ?_
      refine x_weak (ls' := [(0, .ref 0), (1, .ref c1), (2, V a2), (3, V a3), (4, V a4), (5, V v28)]) (sbc 2 rfl (sbc 3 rfl (sbc 4 rfl (sbc 5 rfl (sbc 6 rfl (sbc 0 rfl sbn)))))) ?_
      replace h := ih _ _ h
      exact h _ _ hb ha2 ha3 (Vn_in e_v28) hx
  · replace h := ifN h hc31
    refine x_goto (pc := 86) (tgt := 132) (dK D_Law_better_0 42 rfl) rfl ?_
    refine nmE h ?_
    clear h
    intro v30 e_v30 h
    refine wx_iinc (pc := 132) (j := 5) (a := a5) (z := 1) (ls2 := [(5, V v30), (0, .ref 0), (1, .ref c1), (2, V a2), (3, V a3), (4, V a4)]) (dK D_Law_better_1 16 rfl) rfl e_v30 (ltK rfl) rfl ?_
    refine x_goto (pc := 135) (tgt := 34) (dK D_Law_better_1 17 rfl) rfl ?_
    refine x_weak (ls' := [(0, .ref 0), (1, .ref c1), (2, V a2), (3, V a3), (4, V a4), (5, V v30)]) (sbc 1 rfl (sbc 2 rfl (sbc 3 rfl (sbc 4 rfl (sbc 5 rfl (sbc 0 rfl sbn)))))) ?_
    replace h := ih _ _ h
    exact h _ _ hb ha2 ha3 (Vn_in e_v30) hx
def lb2_Law_better_34 (c1 : Nat) (a4 : Int) (go : Int × Int × Int × LZ → Option ((Int × Int × LZ) × Nat × Nat)) (a2 : Int) (a3 : Int) (a5 : Int) (S : St) (L : List PC) : Option ((Int × Int × LZ) × Nat × Nat) := if isK L c1 12 = true then (bnO (gn_LP_pages c1 S L) fun p8 => if p8 < a5 then (some ((a2, a3, (S, L)), 0, 0)) else (bnO (gfV L c1 12 4) fun v10 => rfB v10 fun r11 => if isK L c1 12 = true then (bnO (gn_LP_on c1 r11 a4 S L) fun p12 => adC p12.2.1 p12.2.2 (rfB p12.1.1 fun r14 => if isK p12.1.2.2 r14 13 = true then (bnO (gn_AL_isEmpty r14 p12.1.2.1 p12.1.2.2) fun p15 => if p15 = true then (bnO (gfV p12.1.2.2 c1 12 4) fun v32 => rfB v32 fun r33 => if isK p12.1.2.2 c1 12 = true then (bnO (gn_LP_on c1 r33 a5 p12.1.2.1 p12.1.2.2) fun p34 => adC p34.2.1 p34.2.2 (rfB p34.1.1 fun r36 => if isK p34.1.2.2 r36 13 = true then (bnO (gn_AL_isEmpty r36 p34.1.2.1 p34.1.2.2) fun p37 => if p37 = true then (nm (wr (a5 + 1)) fun v40 => go (a2, a3, v40, (p34.1.2.1, p34.1.2.2))) else (jf2_Law_better_75_34 c1 a4 go a2 a3 a5 p34.1.2.1 p34.1.2.2)) else none)) else none) else (jf2_Law_better_75_34 c1 a4 go a2 a3 a5 p12.1.2.1 p12.1.2.2)) else none)) else none)) else none
def lo2_Law_better_34 (c1 : Nat) (a4 : Int) : Nat → Int × Int × Int × LZ → Option ((Int × Int × LZ) × Nat × Nat) := lp fun go p => lb2_Law_better_34 c1 a4 go p.1 p.2.1 p.2.2.1 p.2.2.2.1 p.2.2.2.2
theorem tl2_Law_better_34 {sc : SC} {c1 : Nat} {a4 : Int} (ha4 : inR a4) {K : Option Value → List PC → Prop} {mc ms kt nt : Nat} (hkt : kt ≤ mc) (hnt : nt ≤ ms) : ∀ (N : Nat) (a : Int × Int × Int × LZ) (q : (Int × Int × LZ) × Nat × Nat), lo2_Law_better_34 c1 a4 N a = some q → ∀ k n, Bd k n kt nt q → inR a.1 → inR a.2.1 → inR a.2.2.1 → (inR q.1.1 → inR q.1.2.1 → GX sc M_Law_better mc ms 138 [(0, .ref 0), (1, .ref c1), (2, V q.1.1), (3, V q.1.2.1), (4, V a4)] [] (wz q.1.2.2) kt nt K) → GX sc M_Law_better mc ms 34 [(0, .ref 0), (1, .ref c1), (2, V a.1), (3, V a.2.1), (4, V a4), (5, V a.2.2.1)] [] (wz a.2.2.2) k n K := by
  refine lp_ind2 (P := fun (a : Int × Int × Int × LZ) (q : (Int × Int × LZ) × Nat × Nat) => ∀ k n, Bd k n kt nt q → inR a.1 → inR a.2.1 → inR a.2.2.1 → (inR q.1.1 → inR q.1.2.1 → GX sc M_Law_better mc ms 138 [(0, .ref 0), (1, .ref c1), (2, V q.1.1), (3, V q.1.2.1), (4, V a4)] [] (wz q.1.2.2) kt nt K) → GX sc M_Law_better mc ms 34 [(0, .ref 0), (1, .ref c1), (2, V a.1), (3, V a.2.1), (4, V a4), (5, V a.2.2.1)] [] (wz a.2.2.2) k n K) (fun go ih a q h => ?_)
  obtain ⟨a2, a3, a5, ⟨S, L⟩⟩ := a
  intro k n hb ha2 ha3 ha5 hx
  show GX sc M_Law_better mc ms 34 [(0, .ref 0), (1, .ref c1), (2, V a2), (3, V a3), (4, V a4), (5, V a5)] [] (wz (S, L)) k n K
  replace h : lb2_Law_better_34 c1 a4 go a2 a3 a5 S L = some q := h
  unfold lb2_Law_better_34 at h
  refine x_iload (pc := 34) (j := 5) (dK D_Law_better_0 19 rfl) rfl ?_
  refine x_aloadn (pc := 36) (i0 := 1) (j := 1) (dK D_Law_better_0 20 rfl) rfl rfl ?_
  refine gdE h ?_
  clear h
  intro hk9 h
  refine bnE h ?_
  clear h
  intro p8 e_p8 h
  refine x_callX (pc := 37) (As := []) (rest := [V a5]) (mc' := 0) (ms' := 0) (dK D_Law_better_0 21 rfl) Q_Law_42 sx_LP_pages (fitK rfl) (isK_at (Z := (S, L)) (ci := 12) hk9) rfl (leK rfl) (Nat.le_trans (bdk hb) hkt) (Nat.le_trans (bdn hb) hnt) (tg_LP_pages  e_p8) (kxI' (fun h_p8 => ?_))
  refine wx_icmp_gt (pc := 40) (t := 138) (dK D_Law_better_0 22 rfl) rfl ha5 h_p8 (fun hc41 => ?_) (fun hc41 => ?_)
  · replace h := ifP h hc41
    obtain rfl := Option.some.inj h
    refine x_weak (ls' := [(0, .ref 0), (1, .ref c1), (2, V a2), (3, V a3), (4, V a4)]) (sbc 0 rfl (sbc 1 rfl (sbc 2 rfl (sbc 3 rfl (sbc 4 rfl sbn))))) ?_
    refine x_room (bdk hb) (bdn hb) ?_
    exact hx ha2 ha3
  · replace h := ifN h hc41
    refine x_aloadn (pc := 43) (i0 := 1) (j := 1) (dK D_Law_better_0 23 rfl) rfl rfl ?_
    refine x_aloadn (pc := 44) (i0 := 1) (j := 1) (dK D_Law_better_0 24 rfl) rfl rfl ?_
    refine bnE h ?_
    clear h
    intro v10 e_v10 h
    refine wx_getV (pc := 45) (ci := 12) (f := 4) e_v10 (dK D_Law_better_0 25 rfl) q_776 (ltK rfl) (ltK rfl) (fun hv10 => ?_)
    refine x_iload (pc := 48) (j := 4) (dK D_Law_better_0 26 rfl) rfl ?_
    refine rfE h ?_
    clear h
    intro r11 e_r11 h
    rw [e_r11]
    refine gdE h ?_
    clear h
    intro hk13 h
    refine bnE h ?_
    clear h
    intro p12 e_p12 h
    obtain ⟨yp12, h9, e9⟩ := adE2 h
    clear h
    subst e9
    have h := h9
    clear h9
    have hk1 := Nat.le_trans (bd1 hb) hkt
    have hn1 := Nat.le_trans (bd2 hb) hnt
    replace hb := bdA hb
    refine x_callX (pc := 50) (As := [.ref r11, V a4]) (rest := []) (mc' := p12.2.1) (ms' := p12.2.2) (dK D_Law_better_0 27 rfl) Q_Law_138 sx_LP_on (fitK rfl) (isK_at (Z := (S, L)) (ci := 12) hk13) rfl (leK rfl) hk1 hn1 (tg_LP_on ha4 e_p12) (kxR (fun h_p12 => ?_))
    refine rfE h ?_
    clear h
    intro r14 e_r14 h
    rw [e_r14]
    refine gdE h ?_
    clear h
    intro hk16 h
    refine bnE h ?_
    clear h
    intro p15 e_p15 h
    refine x_callX (pc := 53) (As := []) (rest := []) (mc' := 0) (ms' := 0) (dK D_Law_better_0 28 rfl) Q_Law_285 sx_AL_isEmpty (fitK rfl) (isK_at (Z := (p12.1.2.1, p12.1.2.2)) (ci := 13) hk16) rfl (leK rfl) (Nat.le_trans (bdk hb) hkt) (Nat.le_trans (bdn hb) hnt) (tg_AL_isEmpty  e_p15) (kxB' ?_)
    refine wx_ifB_eq (pc := 56) (b := p15) (t := 75) (dK D_Law_better_0 29 rfl) rfl (fun hc17 => ?_) (fun hc17 => ?_)
    · replace h := ifP h hc17
      refine x_aloadn (pc := 59) (i0 := 1) (j := 1) (dK D_Law_better_0 30 rfl) rfl rfl ?_
      refine x_aloadn (pc := 60) (i0 := 1) (j := 1) (dK D_Law_better_0 31 rfl) rfl rfl ?_
      refine bnE h ?_
      clear h
      intro v32 e_v32 h
      refine wx_getV (pc := 61) (ci := 12) (f := 4) e_v32 (dK D_Law_better_0 32 rfl) q_776 (ltK rfl) (ltK rfl) (fun hv32 => ?_)
      refine x_iload (pc := 64) (j := 5) (dK D_Law_better_0 33 rfl) rfl ?_
      refine rfE h ?_
      clear h
      intro r33 e_r33 h
      rw [e_r33]
      refine gdE h ?_
      clear h
      intro hk35 h
      refine bnE h ?_
      clear h
      intro p34 e_p34 h
      obtain ⟨yp34, h9, e9⟩ := adE2 h
      clear h
      subst e9
      have h := h9
      clear h9
      have hk1 := Nat.le_trans (bd1 hb) hkt
      have hn1 := Nat.le_trans (bd2 hb) hnt
      replace hb := bdA hb
      refine x_callX (pc := 66) (As := [.ref r33, V a5]) (rest := []) (mc' := p34.2.1) (ms' := p34.2.2) (dK D_Law_better_0 34 rfl) Q_Law_138 sx_LP_on (fitK rfl) (isK_at (Z := (p12.1.2.1, p12.1.2.2)) (ci := 12) hk35) rfl (leK rfl) hk1 hn1 (tg_LP_on ha5 e_p34) (kxR (fun h_p34 => ?_))
      refine rfE h ?_
      clear h
      intro r36 e_r36 h
      rw [e_r36]
      refine gdE h ?_
      clear h
      intro hk38 h
      refine bnE h ?_
      clear h
      intro p37 e_p37 h
      refine x_callX (pc := 69) (As := []) (rest := []) (mc' := 0) (ms' := 0) (dK D_Law_better_0 35 rfl) Q_Law_285 sx_AL_isEmpty (fitK rfl) (isK_at (Z := (p34.1.2.1, p34.1.2.2)) (ci := 13) hk38) rfl (leK rfl) (Nat.le_trans (bdk hb) hkt) (Nat.le_trans (bdn hb) hnt) (tg_AL_isEmpty  e_p37) (kxB' ?_)
      refine wx_ifB_ne (pc := 72) (b := p37) (t := 132) (dK D_Law_better_0 36 rfl) rfl (fun hc39 => ?_) (fun hc39 => ?_)
      · replace h := ifP h hc39
        refine nmE h ?_
        clear h
        intro v40 e_v40 h
        refine wx_iinc (pc := 132) (j := 5) (a := a5) (z := 1) (ls2 := [(5, V v40), (0, .ref 0), (1, .ref c1), (2, V a2), (3, V a3), (4, V a4)]) (dK D_Law_better_1 16 rfl) rfl e_v40 (ltK rfl) rfl ?_
        refine x_goto (pc := 135) (tgt := 34) (dK D_Law_better_1 17 rfl) rfl ?_
        refine x_weak (ls' := [(0, .ref 0), (1, .ref c1), (2, V a2), (3, V a3), (4, V a4), (5, V v40)]) (sbc 1 rfl (sbc 2 rfl (sbc 3 rfl (sbc 4 rfl (sbc 5 rfl (sbc 0 rfl sbn)))))) ?_
        replace h := ih _ _ h
        exact h _ _ hb ha2 ha3 (Vn_in e_v40) hx
      · replace h := ifN h hc39
        exact tj2_Law_better_75_34 ha4 hkt hnt ih ha2 ha3 ha5 h hb hx
    · replace h := ifN h hc17
      exact tj2_Law_better_75_34 ha4 hkt hnt ih ha2 ha3 ha5 h hb hx
def lb2_Law_better_10 (c1 : Nat) (go : Int × Int × Int × LZ → Option ((Int × LZ) × Nat × Nat)) (a2 : Int) (a3 : Int) (a4 : Int) (S : St) (L : List PC) : Option ((Int × LZ) × Nat × Nat) := if isK L c1 12 = true then (bnO (gn_LP_pages c1 S L) fun p3 => if p3 < a4 then (some ((a2, (S, L)), 0, 0)) else (if isK L c1 12 = true then (bnO (gn_LP_pages c1 S L) fun p5 => if 33 ≤ p5 then (some ((a2, (S, L)), 0, 0)) else (nm (wr (a4 + 1)) fun v7 => bnO (lo2_Law_better_34 c1 a4 FU (a2, a3, v7, (S, L))) fun p42 => adC p42.2.1 p42.2.2 (nm (wr (a4 + 1)) fun v43 => go (p42.1.1, p42.1.2.1, v43, (p42.1.2.2.1, p42.1.2.2.2))))) else none)) else none
def lo2_Law_better_10 (c1 : Nat) : Nat → Int × Int × Int × LZ → Option ((Int × LZ) × Nat × Nat) := lp fun go p => lb2_Law_better_10 c1 go p.1 p.2.1 p.2.2.1 p.2.2.2.1 p.2.2.2.2
theorem tl2_Law_better_10 {sc : SC} {c1 : Nat} {K : Option Value → List PC → Prop} {mc ms kt nt : Nat} (hkt : kt ≤ mc) (hnt : nt ≤ ms) : ∀ (N : Nat) (a : Int × Int × Int × LZ) (q : (Int × LZ) × Nat × Nat), lo2_Law_better_10 c1 N a = some q → ∀ k n, Bd k n kt nt q → inR a.1 → inR a.2.1 → inR a.2.2.1 → (inR q.1.1 → GX sc M_Law_better mc ms 144 [(0, .ref 0), (1, .ref c1), (2, V q.1.1)] [] (wz q.1.2) kt nt K) → GX sc M_Law_better mc ms 10 [(0, .ref 0), (1, .ref c1), (2, V a.1), (3, V a.2.1), (4, V a.2.2.1)] [] (wz a.2.2.2) k n K := by
  refine lp_ind2 (P := fun (a : Int × Int × Int × LZ) (q : (Int × LZ) × Nat × Nat) => ∀ k n, Bd k n kt nt q → inR a.1 → inR a.2.1 → inR a.2.2.1 → (inR q.1.1 → GX sc M_Law_better mc ms 144 [(0, .ref 0), (1, .ref c1), (2, V q.1.1)] [] (wz q.1.2) kt nt K) → GX sc M_Law_better mc ms 10 [(0, .ref 0), (1, .ref c1), (2, V a.1), (3, V a.2.1), (4, V a.2.2.1)] [] (wz a.2.2.2) k n K) (fun go ih a q h => ?_)
  obtain ⟨a2, a3, a4, ⟨S, L⟩⟩ := a
  intro k n hb ha2 ha3 ha4 hx
  show GX sc M_Law_better mc ms 10 [(0, .ref 0), (1, .ref c1), (2, V a2), (3, V a3), (4, V a4)] [] (wz (S, L)) k n K
  replace h : lb2_Law_better_10 c1 go a2 a3 a4 S L = some q := h
  unfold lb2_Law_better_10 at h
  refine x_iload (pc := 10) (j := 4) (dK D_Law_better_0 7 rfl) rfl ?_
  refine x_aloadn (pc := 12) (i0 := 1) (j := 1) (dK D_Law_better_0 8 rfl) rfl rfl ?_
  refine gdE h ?_
  clear h
  intro hk4 h
  refine bnE h ?_
  clear h
  intro p3 e_p3 h
  refine x_callX (pc := 13) (As := []) (rest := [V a4]) (mc' := 0) (ms' := 0) (dK D_Law_better_0 9 rfl) Q_Law_42 sx_LP_pages (fitK rfl) (isK_at (Z := (S, L)) (ci := 12) hk4) rfl (leK rfl) (Nat.le_trans (bdk hb) hkt) (Nat.le_trans (bdn hb) hnt) (tg_LP_pages  e_p3) (kxI' (fun h_p3 => ?_))
  refine wx_icmp_gt (pc := 16) (t := 144) (dK D_Law_better_0 10 rfl) rfl ha4 h_p3 (fun hc45 => ?_) (fun hc45 => ?_)
  · replace h := ifP h hc45
    obtain rfl := Option.some.inj h
    refine x_weak (ls' := [(0, .ref 0), (1, .ref c1), (2, V a2)]) (sbc 0 rfl (sbc 1 rfl (sbc 2 rfl sbn))) ?_
    refine x_room (bdk hb) (bdn hb) ?_
    exact hx ha2
  · replace h := ifN h hc45
    refine x_aloadn (pc := 19) (i0 := 1) (j := 1) (dK D_Law_better_0 11 rfl) rfl rfl ?_
    refine gdE h ?_
    clear h
    intro hk6 h
    refine bnE h ?_
    clear h
    intro p5 e_p5 h
    refine x_callX (pc := 20) (As := []) (rest := []) (mc' := 0) (ms' := 0) (dK D_Law_better_0 12 rfl) Q_Law_42 sx_LP_pages (fitK rfl) (isK_at (Z := (S, L)) (ci := 12) hk6) rfl (leK rfl) (Nat.le_trans (bdk hb) hkt) (Nat.le_trans (bdn hb) hnt) (tg_LP_pages  e_p5) (kxI' (fun h_p5 => ?_))
    refine wx_bipush (pc := 23) (dK D_Law_better_0 13 rfl) rfl ?_
    refine wx_icmp_ge (pc := 25) (t := 144) (dK D_Law_better_0 14 rfl) rfl h_p5 (inRk rfl) (fun hc44 => ?_) (fun hc44 => ?_)
    · replace h := ifP h hc44
      obtain rfl := Option.some.inj h
      refine x_weak (ls' := [(0, .ref 0), (1, .ref c1), (2, V a2)]) (sbc 0 rfl (sbc 1 rfl (sbc 2 rfl sbn))) ?_
      refine x_room (bdk hb) (bdn hb) ?_
      exact hx ha2
    · replace h := ifN h hc44
      refine x_iload (pc := 28) (j := 4) (dK D_Law_better_0 15 rfl) rfl ?_
      refine wx_iconst (pc := 30) (dK D_Law_better_0 16 rfl) ?_
      refine wx_iadd (pc := 31) (dK D_Law_better_0 17 rfl) ?_
      refine nmE h ?_
      clear h
      intro v7 e_v7 h
      refine wtop e_v7 ?_
      refine x_istore (pc := 32) (ls2 := [(5, V v7), (0, .ref 0), (1, .ref c1), (2, V a2), (3, V a3), (4, V a4)]) (dK D_Law_better_0 18 rfl) (ltK rfl) rfl ?_
      refine bnE h ?_
      clear h
      intro p42 e_p42 h
      obtain ⟨yp42, h9, e9⟩ := adE2 h
      clear h
      subst e9
      have h := h9
      clear h9
      have hk1 := Nat.le_trans (bd1 hb) hkt
      have hn1 := Nat.le_trans (bd2 hb) hnt
      replace hb := bdA hb
      refine x_weak (ls' := [(0, .ref 0), (1, .ref c1), (2, V a2), (3, V a3), (4, V a4), (5, V v7)]) (sbc 1 rfl (sbc 2 rfl (sbc 3 rfl (sbc 4 rfl (sbc 5 rfl (sbc 0 rfl sbn)))))) ?_
      refine tl2_Law_better_34 ha4 hk1 hn1 FU _ _ e_p42 _ _ ⟨Nat.le_refl _, Nat.le_refl _⟩ ha2 ha3 (Vn_in e_v7) (fun hx2_p42 hx3_p42 => ?_)
      refine nmE h ?_
      clear h
      intro v43 e_v43 h
      refine wx_iinc (pc := 138) (j := 4) (a := a4) (z := 1) (ls2 := [(4, V v43), (0, .ref 0), (1, .ref c1), (2, V p42.1.1), (3, V p42.1.2.1)]) (dK D_Law_better_1 18 rfl) rfl e_v43 (ltK rfl) rfl ?_
      refine x_goto (pc := 141) (tgt := 10) (dK D_Law_better_1 19 rfl) rfl ?_
      refine x_weak (ls' := [(0, .ref 0), (1, .ref c1), (2, V p42.1.1), (3, V p42.1.2.1), (4, V v43)]) (sbc 1 rfl (sbc 2 rfl (sbc 3 rfl (sbc 4 rfl (sbc 0 rfl sbn))))) ?_
      replace h := ih _ _ h
      exact h _ _ hb hx2_p42 hx3_p42 (Vn_in e_v43) hx
def gn_Law_better (c1 : Nat) (S : St) (L : List PC) : Option ((Bool × LZ) × Nat × Nat) := if isK L c1 12 = true then (bnO (gn_LP_colored c1 S L) fun p1 => adC p1.2.1 p1.2.2 (bnO (lo2_Law_better_10 c1 FU ((-1), p1.1.1, 1, (p1.1.2.1, p1.1.2.2))) fun p46 => adC p46.2.1 p46.2.2 (if isK p46.1.2.2 c1 12 = true then (bnO (gn_LP_pages c1 p46.1.2.1 p46.1.2.2) fun p47 => if 32 < p47 then (some ((true, (p46.1.2.1, p46.1.2.2)), 0, 0)) else (bnO (fn_FP_betterExchange 0 p46.1.2.1) fun p49 => if p49.1 = p46.1.1 then (some ((true, (p49.2, p46.1.2.2)), 0, 0)) else (some ((false, (p49.2, p46.1.2.2)), 0, 0)))) else none))) else none
theorem te_Law_better {sc : SC} {c1 : Nat} {S : St} {L : List PC} {q : (Bool × LZ) × Nat × Nat} (h : gn_Law_better c1 S L = some q) {mc ms k n : Nat} (hb : Bd k n mc ms q) : GX sc M_Law_better mc ms 0 [(0, .ref 0), (1, .ref c1)] [] (wz (S, L)) k n (KXB q.1.1 q.1.2) := by
  unfold gn_Law_better at h
  refine wx_iconst (pc := 0) (dK D_Law_better_0 0 rfl) ?_
  refine x_istoren (pc := 1) (i0 := 2) (ls2 := [(2, V (-1)), (0, .ref 0), (1, .ref c1)]) (dK D_Law_better_0 1 rfl) rfl (ltK rfl) rfl ?_
  refine x_aloadn (pc := 2) (i0 := 1) (j := 2) (dK D_Law_better_0 2 rfl) rfl rfl ?_
  refine gdE h ?_
  clear h
  intro hk2 h
  refine bnE h ?_
  clear h
  intro p1 e_p1 h
  obtain ⟨yp1, h9, e9⟩ := adE2 h
  clear h
  subst e9
  have h := h9
  clear h9
  have hk1 := bd1 hb
  have hn1 := bd2 hb
  replace hb := bdA hb
  refine x_callX (pc := 3) (As := []) (rest := []) (mc' := p1.2.1) (ms' := p1.2.2) (dK D_Law_better_0 3 rfl) Q_Law_349 sx_LP_colored (fitK rfl) (isK_at (Z := (S, L)) (ci := 12) hk2) rfl (leK rfl) hk1 hn1 (tg_LP_colored  e_p1) (kxI' (fun h_p1 => ?_))
  refine x_istoren (pc := 6) (i0 := 3) (ls2 := [(3, V p1.1.1), (2, V (-1)), (0, .ref 0), (1, .ref c1)]) (dK D_Law_better_0 4 rfl) rfl (ltK rfl) rfl ?_
  refine wx_iconst (pc := 7) (dK D_Law_better_0 5 rfl) ?_
  refine x_istore (pc := 8) (ls2 := [(4, V 1), (3, V p1.1.1), (2, V (-1)), (0, .ref 0), (1, .ref c1)]) (dK D_Law_better_0 6 rfl) (ltK rfl) rfl ?_
  refine bnE h ?_
  clear h
  intro p46 e_p46 h
  obtain ⟨yp46, h9, e9⟩ := adE2 h
  clear h
  subst e9
  have h := h9
  clear h9
  have hk1 := bd1 hb
  have hn1 := bd2 hb
  replace hb := bdA hb
  refine x_weak (ls' := [(0, .ref 0), (1, .ref c1), (2, V (-1)), (3, V p1.1.1), (4, V 1)]) (sbc 3 rfl (sbc 4 rfl (sbc 2 rfl (sbc 1 rfl (sbc 0 rfl sbn))))) ?_
  refine tl2_Law_better_10  hk1 hn1 FU _ _ e_p46 _ _ ⟨Nat.le_refl _, Nat.le_refl _⟩ (inRk rfl) h_p1 (inRk rfl) (fun hx2_p46 => ?_)
  refine x_aloadn (pc := 144) (i0 := 1) (j := 1) (dK D_Law_better_1 20 rfl) rfl rfl ?_
  refine gdE h ?_
  clear h
  intro hk48 h
  refine bnE h ?_
  clear h
  intro p47 e_p47 h
  refine x_callX (pc := 145) (As := []) (rest := []) (mc' := 0) (ms' := 0) (dK D_Law_better_1 21 rfl) Q_Law_42 sx_LP_pages (fitK rfl) (isK_at (Z := (p46.1.2.1, p46.1.2.2)) (ci := 12) hk48) rfl (leK rfl) (bdk hb) (bdn hb) (tg_LP_pages  e_p47) (kxI' (fun h_p47 => ?_))
  refine wx_bipush (pc := 148) (dK D_Law_better_1 22 rfl) rfl ?_
  refine wx_icmp_gt (pc := 150) (t := 161) (dK D_Law_better_1 23 rfl) rfl h_p47 (inRk rfl) (fun hc51 => ?_) (fun hc51 => ?_)
  · replace h := ifP h hc51
    refine wx_iconst (pc := 161) (dK D_Law_better_1 28 rfl) ?_
    refine x_goto (pc := 162) (tgt := 166) (dK D_Law_better_1 29 rfl) rfl ?_
    obtain rfl := Option.some.inj h
    exact wk_iretB (pc := 166) (b := true) (dK D_Law_better_1 31 rfl) rfl (bdk hb) (bdn hb) ⟨rfl, rfl⟩
  · replace h := ifN h hc51
    refine x_aloadn (pc := 153) (i0 := 0) (j := 0) (dK D_Law_better_1 24 rfl) rfl rfl ?_
    refine bnE h ?_
    clear h
    intro p49 e_p49 h
    refine x_callX (pc := 154) (As := []) (rest := []) (mc' := 0) (ms' := 0) (dK D_Law_better_1 25 rfl) Q_Law_359 sx_FP_betterExchange (fitK rfl) (isK_at (Z := (p46.1.2.1, p46.1.2.2)) (ci := 10) isK0) rfl (leK rfl) (bdk hb) (bdn hb) (clI (fun E => tf_FP_betterExchange (X := xz p46.1.2.2) xz_hc  e_p49)) (kxI' (fun h_p49 => ?_))
    refine x_iloadn (pc := 157) (i0 := 2) (j := 2) (dK D_Law_better_1 26 rfl) rfl rfl ?_
    refine wx_icmp_ne (pc := 158) (t := 165) (dK D_Law_better_1 27 rfl) rfl h_p49 hx2_p46 (fun hc50 => ?_) (fun hc50 => ?_)
    · replace h := ifN h hc50
      refine wx_iconst (pc := 165) (dK D_Law_better_1 30 rfl) ?_
      obtain rfl := Option.some.inj h
      exact wk_iretB (pc := 166) (b := false) (dK D_Law_better_1 31 rfl) rfl (bdk hb) (bdn hb) ⟨rfl, rfl⟩
    · replace h := ifP h hc50
      refine wx_iconst (pc := 161) (dK D_Law_better_1 28 rfl) ?_
      refine x_goto (pc := 162) (tgt := 166) (dK D_Law_better_1 29 rfl) rfl ?_
      obtain rfl := Option.some.inj h
      exact wk_iretB (pc := 166) (b := true) (dK D_Law_better_1 31 rfl) rfl (bdk hb) (bdn hb) ⟨rfl, rfl⟩
theorem tg_Law_better {sc : SC} {c1 : Nat} {S : St} {L : List PC} {q : (Bool × LZ) × Nat × Nat} (h : gn_Law_better c1 S L = some q) : EvX sc M_Law_better [.ref 0, .ref c1] (wz (S, L)) q.2.1 q.2.2 (KXB q.1.1 q.1.2) := EvX.of pn2_Law rfl (leK rfl) (te_Law_better  h ⟨Nat.le_of_eq (Nat.zero_add _), Nat.le_of_eq (Nat.zero_add _)⟩)
def lb2_Law_groups_68 (c1 : Nat) (c4 : Nat) (a5 : Int) (c6 : Nat) (S : St) (L : List PC) (go : Int × Int → Option (Int)) (a3 : Int) (a7 : Int) : Option (Int) := if a5 ≤ a7 then (some a3) else (bnO (gfI L c6 11 1) fun v21 => if v21 ≤ 0 then (nm (wr (a3 + 0)) fun v22 => nm (wr (a7 + 1)) fun v23 => go (v22, v23)) else (bnO (gfV L c1 12 4) fun v24 => rfB v24 fun r25 => if isK L r25 13 = true then (bnO (gn_AL_get r25 a7 S L) fun p26 => rfB p26 fun r28 => if isK L r28 11 = true then (bnO (gfI L r28 11 1) fun v30 => bnO (gfI L c6 11 1) fun v31 => if v30 = v31 then (bnO (gfI L c6 11 5) fun v34 => if v34 ≤ 0 then (nm (wr (a3 + 0)) fun v35 => nm (wr (a7 + 1)) fun v36 => go (v35, v36)) else (bnO (gfV L c1 12 4) fun v37 => rfB v37 fun r38 => if isK L r38 13 = true then (bnO (gn_AL_get r38 a7 S L) fun p39 => rfB p39 fun r41 => if isK L r41 11 = true then (bnO (gfI L r41 11 5) fun v43 => if v43 ≤ 0 then (nm (wr (a3 + 0)) fun v44 => nm (wr (a7 + 1)) fun v45 => go (v44, v45)) else (bnO (gfI L c6 11 5) fun v46 => bnO (gfV L c1 12 4) fun v47 => rfB v47 fun r48 => if isK L r48 13 = true then (bnO (gn_AL_get r48 a7 S L) fun p49 => rfB p49 fun r51 => if isK L r51 11 = true then (bnO (gfI L r51 11 5) fun v53 => nm (wr ((v46.tdiv 2) - (v53.tdiv 2))) fun v54 => nm (wr (i_abs v54)) fun v55 => if v55 = 1 then (nm (wr (a3 + 1)) fun v58 => nm (wr (a7 + 1)) fun v59 => go (v58, v59)) else (nm (wr (a3 + 0)) fun v56 => nm (wr (a7 + 1)) fun v57 => go (v56, v57))) else none) else none)) else none) else none)) else (nm (wr (a3 + 0)) fun v32 => nm (wr (a7 + 1)) fun v33 => go (v32, v33))) else none) else none))
def lo2_Law_groups_68 (c1 : Nat) (c4 : Nat) (a5 : Int) (c6 : Nat) (S : St) (L : List PC) : Nat → Int × Int → Option (Int) := lp fun go p => lb2_Law_groups_68 c1 c4 a5 c6 S L go p.1 p.2
theorem tl2_Law_groups_68 {sc : SC} {c1 : Nat} {c4 : Nat} {a5 : Int} (ha5 : inR a5) {c6 : Nat} {K : Option Value → List PC → Prop} {S : St} {L : List PC} {mc ms k n : Nat} (hk0 : k ≤ mc) (hn0 : n ≤ ms) : ∀ (N : Nat) (a : Int × Int) (q : Int), lo2_Law_groups_68 c1 c4 a5 c6 S L N a = some q → inR a.1 → inR a.2 → (inR q → GX sc M_Law_groups mc ms 178 [(0, .ref 0), (1, .ref c1), (3, V q), (4, .ref c4), (5, V a5)] [] (wz (S, L)) k n K) → GX sc M_Law_groups mc ms 68 [(0, .ref 0), (1, .ref c1), (3, V a.1), (4, .ref c4), (5, V a5), (6, .ref c6), (7, V a.2)] [] (wz (S, L)) k n K := by
  refine lp_ind2 (P := fun (a : Int × Int) (q : Int) => inR a.1 → inR a.2 → (inR q → GX sc M_Law_groups mc ms 178 [(0, .ref 0), (1, .ref c1), (3, V q), (4, .ref c4), (5, V a5)] [] (wz (S, L)) k n K) → GX sc M_Law_groups mc ms 68 [(0, .ref 0), (1, .ref c1), (3, V a.1), (4, .ref c4), (5, V a5), (6, .ref c6), (7, V a.2)] [] (wz (S, L)) k n K) (fun go ih a q h => ?_)
  obtain ⟨a3, a7⟩ := a
  intro ha3 ha7 hx
  show GX sc M_Law_groups mc ms 68 [(0, .ref 0), (1, .ref c1), (3, V a3), (4, .ref c4), (5, V a5), (6, .ref c6), (7, V a7)] [] (wz (S, L)) k n K
  replace h : lb2_Law_groups_68 c1 c4 a5 c6 S L go a3 a7 = some q := h
  unfold lb2_Law_groups_68 at h
  refine x_iload (pc := 68) (j := 6) (dK D_Law_groups_0 34 rfl) rfl ?_
  refine x_iload (pc := 70) (j := 4) (dK D_Law_groups_0 35 rfl) rfl ?_
  refine wx_icmp_ge (pc := 72) (t := 178) (dK D_Law_groups_0 36 rfl) rfl ha7 ha5 (fun hc65 => ?_) (fun hc65 => ?_)
  · replace h := ifP h hc65
    obtain rfl := Option.some.inj h
    refine x_weak (ls' := [(0, .ref 0), (1, .ref c1), (3, V a3), (4, .ref c4), (5, V a5)]) (sbc 0 rfl (sbc 1 rfl (sbc 2 rfl (sbc 3 rfl (sbc 4 rfl sbn))))) ?_
    exact hx ha3
  · replace h := ifN h hc65
    refine x_iloadn (pc := 75) (i0 := 3) (j := 2) (dK D_Law_groups_0 37 rfl) rfl rfl ?_
    refine x_aload (pc := 76) (j := 5) (dK D_Law_groups_0 38 rfl) rfl ?_
    refine bnE h ?_
    clear h
    intro v21 e_v21 h
    refine wx_getI (pc := 78) (ci := 11) (f := 1) e_v21 (dK D_Law_groups_0 39 rfl) q_876 (ltK rfl) (ltK rfl) ?_
    refine wx_if_le (pc := 81) (t := 169) (dK D_Law_groups_0 40 rfl) rfl (vI_at e_v21).2 (fun hc64 => ?_) (fun hc64 => ?_)
    · replace h := ifP h hc64
      refine wx_iconst (pc := 169) (dK D_Law_groups_1 28 rfl) ?_
      refine wx_iadd (pc := 170) (dK D_Law_groups_1 29 rfl) ?_
      refine nmE h ?_
      clear h
      intro v22 e_v22 h
      refine wtop e_v22 ?_
      refine x_istoren (pc := 171) (i0 := 3) (ls2 := [(3, V v22), (0, .ref 0), (1, .ref c1), (4, .ref c4), (5, V a5), (6, .ref c6), (7, V a7)]) (dK D_Law_groups_1 30 rfl) rfl (ltK rfl) rfl ?_
      refine nmE h ?_
      clear h
      intro v23 e_v23 h
      refine wx_iinc (pc := 172) (j := 6) (a := a7) (z := 1) (ls2 := [(7, V v23), (3, V v22), (0, .ref 0), (1, .ref c1), (4, .ref c4), (5, V a5), (6, .ref c6)]) (dK D_Law_groups_1 31 rfl) rfl e_v23 (ltK rfl) rfl ?_
      refine x_goto (pc := 175) (tgt := 68) (dK D_Law_groups_1 32 rfl) rfl ?_
      refine x_weak (ls' := [(0, .ref 0), (1, .ref c1), (3, V v22), (4, .ref c4), (5, V a5), (6, .ref c6), (7, V v23)]) (sbc 2 rfl (sbc 3 rfl (sbc 1 rfl (sbc 4 rfl (sbc 5 rfl (sbc 6 rfl (sbc 0 rfl sbn))))))) ?_
      replace h := ih _ _ h
      exact h (Vn_in e_v22) (Vn_in e_v23) hx
    · replace h := ifN h hc64
      refine x_aloadn (pc := 84) (i0 := 1) (j := 1) (dK D_Law_groups_0 41 rfl) rfl rfl ?_
      refine bnE h ?_
      clear h
      intro v24 e_v24 h
      refine wx_getV (pc := 85) (ci := 12) (f := 4) e_v24 (dK D_Law_groups_0 42 rfl) q_776 (ltK rfl) (ltK rfl) (fun hv24 => ?_)
      refine x_iload (pc := 88) (j := 6) (dK D_Law_groups_0 43 rfl) rfl ?_
      refine rfE h ?_
      clear h
      intro r25 e_r25 h
      rw [e_r25]
      refine gdE h ?_
      clear h
      intro hk27 h
      refine bnE h ?_
      clear h
      intro p26 e_p26 h
      refine x_callX (pc := 90) (As := [V a7]) (rest := [V a3]) (mc' := 0) (ms' := 0) (dK D_Law_groups_0 44 rfl) Q_Law_69 sx_AL_get (fitK rfl) (isK_at (Z := (S, L)) (ci := 13) hk27) rfl (leK rfl) hk0 hn0 (tg_AL_get ha7 e_p26) (kxR (fun h_p26 => ?_))
      refine rfE h ?_
      clear h
      intro r28 e_r28 h
      rw [e_r28]
      refine gdE h ?_
      clear h
      intro hk29 h
      refine x_cast (pc := 93) (dK D_Law_groups_0 45 rfl) q_1033 (isK_at (Z := (S, L)) (ci := 11) hk29) ?_
      refine bnE h ?_
      clear h
      intro v30 e_v30 h
      refine wx_getI (pc := 96) (ci := 11) (f := 1) e_v30 (dK D_Law_groups_0 46 rfl) q_876 (ltK rfl) (ltK rfl) ?_
      refine x_aload (pc := 99) (j := 5) (dK D_Law_groups_0 47 rfl) rfl ?_
      refine bnE h ?_
      clear h
      intro v31 e_v31 h
      refine wx_getI (pc := 101) (ci := 11) (f := 1) e_v31 (dK D_Law_groups_0 48 rfl) q_876 (ltK rfl) (ltK rfl) ?_
      refine wx_icmp_ne (pc := 104) (t := 169) (dK D_Law_groups_0 49 rfl) rfl (vI_at e_v30).2 (vI_at e_v31).2 (fun hc63 => ?_) (fun hc63 => ?_)
      · replace h := ifN h hc63
        refine wx_iconst (pc := 169) (dK D_Law_groups_1 28 rfl) ?_
        refine wx_iadd (pc := 170) (dK D_Law_groups_1 29 rfl) ?_
        refine nmE h ?_
        clear h
        intro v32 e_v32 h
        refine wtop e_v32 ?_
        refine x_istoren (pc := 171) (i0 := 3) (ls2 := [(3, V v32), (0, .ref 0), (1, .ref c1), (4, .ref c4), (5, V a5), (6, .ref c6), (7, V a7)]) (dK D_Law_groups_1 30 rfl) rfl (ltK rfl) rfl ?_
        refine nmE h ?_
        clear h
        intro v33 e_v33 h
        refine wx_iinc (pc := 172) (j := 6) (a := a7) (z := 1) (ls2 := [(7, V v33), (3, V v32), (0, .ref 0), (1, .ref c1), (4, .ref c4), (5, V a5), (6, .ref c6)]) (dK D_Law_groups_1 31 rfl) rfl e_v33 (ltK rfl) rfl ?_
        refine x_goto (pc := 175) (tgt := 68) (dK D_Law_groups_1 32 rfl) rfl ?_
        refine x_weak (ls' := [(0, .ref 0), (1, .ref c1), (3, V v32), (4, .ref c4), (5, V a5), (6, .ref c6), (7, V v33)]) (sbc 2 rfl (sbc 3 rfl (sbc 1 rfl (sbc 4 rfl (sbc 5 rfl (sbc 6 rfl (sbc 0 rfl sbn))))))) ?_
        replace h := ih _ _ h
        exact h (Vn_in e_v32) (Vn_in e_v33) hx
      · replace h := ifP h hc63
        refine x_aload (pc := 107) (j := 5) (dK D_Law_groups_1 0 rfl) rfl ?_
        refine bnE h ?_
        clear h
        intro v34 e_v34 h
        refine wx_getI (pc := 109) (ci := 11) (f := 5) e_v34 (dK D_Law_groups_1 1 rfl) q_889 (ltK rfl) (ltK rfl) ?_
        refine wx_if_le (pc := 112) (t := 169) (dK D_Law_groups_1 2 rfl) rfl (vI_at e_v34).2 (fun hc62 => ?_) (fun hc62 => ?_)
        · replace h := ifP h hc62
          refine wx_iconst (pc := 169) (dK D_Law_groups_1 28 rfl) ?_
          refine wx_iadd (pc := 170) (dK D_Law_groups_1 29 rfl) ?_
          refine nmE h ?_
          clear h
          intro v35 e_v35 h
          refine wtop e_v35 ?_
          refine x_istoren (pc := 171) (i0 := 3) (ls2 := [(3, V v35), (0, .ref 0), (1, .ref c1), (4, .ref c4), (5, V a5), (6, .ref c6), (7, V a7)]) (dK D_Law_groups_1 30 rfl) rfl (ltK rfl) rfl ?_
          refine nmE h ?_
          clear h
          intro v36 e_v36 h
          refine wx_iinc (pc := 172) (j := 6) (a := a7) (z := 1) (ls2 := [(7, V v36), (3, V v35), (0, .ref 0), (1, .ref c1), (4, .ref c4), (5, V a5), (6, .ref c6)]) (dK D_Law_groups_1 31 rfl) rfl e_v36 (ltK rfl) rfl ?_
          refine x_goto (pc := 175) (tgt := 68) (dK D_Law_groups_1 32 rfl) rfl ?_
          refine x_weak (ls' := [(0, .ref 0), (1, .ref c1), (3, V v35), (4, .ref c4), (5, V a5), (6, .ref c6), (7, V v36)]) (sbc 2 rfl (sbc 3 rfl (sbc 1 rfl (sbc 4 rfl (sbc 5 rfl (sbc 6 rfl (sbc 0 rfl sbn))))))) ?_
          replace h := ih _ _ h
          exact h (Vn_in e_v35) (Vn_in e_v36) hx
        · replace h := ifN h hc62
          refine x_aloadn (pc := 115) (i0 := 1) (j := 1) (dK D_Law_groups_1 3 rfl) rfl rfl ?_
          refine bnE h ?_
          clear h
          intro v37 e_v37 h
          refine wx_getV (pc := 116) (ci := 12) (f := 4) e_v37 (dK D_Law_groups_1 4 rfl) q_776 (ltK rfl) (ltK rfl) (fun hv37 => ?_)
          refine x_iload (pc := 119) (j := 6) (dK D_Law_groups_1 5 rfl) rfl ?_
          refine rfE h ?_
          clear h
          intro r38 e_r38 h
          rw [e_r38]
          refine gdE h ?_
          clear h
          intro hk40 h
          refine bnE h ?_
          clear h
          intro p39 e_p39 h
          refine x_callX (pc := 121) (As := [V a7]) (rest := [V a3]) (mc' := 0) (ms' := 0) (dK D_Law_groups_1 6 rfl) Q_Law_69 sx_AL_get (fitK rfl) (isK_at (Z := (S, L)) (ci := 13) hk40) rfl (leK rfl) hk0 hn0 (tg_AL_get ha7 e_p39) (kxR (fun h_p39 => ?_))
          refine rfE h ?_
          clear h
          intro r41 e_r41 h
          rw [e_r41]
          refine gdE h ?_
          clear h
          intro hk42 h
          refine x_cast (pc := 124) (dK D_Law_groups_1 7 rfl) q_1033 (isK_at (Z := (S, L)) (ci := 11) hk42) ?_
          refine bnE h ?_
          clear h
          intro v43 e_v43 h
          refine wx_getI (pc := 127) (ci := 11) (f := 5) e_v43 (dK D_Law_groups_1 8 rfl) q_889 (ltK rfl) (ltK rfl) ?_
          refine wx_if_le (pc := 130) (t := 169) (dK D_Law_groups_1 9 rfl) rfl (vI_at e_v43).2 (fun hc61 => ?_) (fun hc61 => ?_)
          · replace h := ifP h hc61
            refine wx_iconst (pc := 169) (dK D_Law_groups_1 28 rfl) ?_
            refine wx_iadd (pc := 170) (dK D_Law_groups_1 29 rfl) ?_
            refine nmE h ?_
            clear h
            intro v44 e_v44 h
            refine wtop e_v44 ?_
            refine x_istoren (pc := 171) (i0 := 3) (ls2 := [(3, V v44), (0, .ref 0), (1, .ref c1), (4, .ref c4), (5, V a5), (6, .ref c6), (7, V a7)]) (dK D_Law_groups_1 30 rfl) rfl (ltK rfl) rfl ?_
            refine nmE h ?_
            clear h
            intro v45 e_v45 h
            refine wx_iinc (pc := 172) (j := 6) (a := a7) (z := 1) (ls2 := [(7, V v45), (3, V v44), (0, .ref 0), (1, .ref c1), (4, .ref c4), (5, V a5), (6, .ref c6)]) (dK D_Law_groups_1 31 rfl) rfl e_v45 (ltK rfl) rfl ?_
            refine x_goto (pc := 175) (tgt := 68) (dK D_Law_groups_1 32 rfl) rfl ?_
            refine x_weak (ls' := [(0, .ref 0), (1, .ref c1), (3, V v44), (4, .ref c4), (5, V a5), (6, .ref c6), (7, V v45)]) (sbc 2 rfl (sbc 3 rfl (sbc 1 rfl (sbc 4 rfl (sbc 5 rfl (sbc 6 rfl (sbc 0 rfl sbn))))))) ?_
            replace h := ih _ _ h
            exact h (Vn_in e_v44) (Vn_in e_v45) hx
          · replace h := ifN h hc61
            refine x_aload (pc := 133) (j := 5) (dK D_Law_groups_1 10 rfl) rfl ?_
            refine bnE h ?_
            clear h
            intro v46 e_v46 h
            refine wx_getI (pc := 135) (ci := 11) (f := 5) e_v46 (dK D_Law_groups_1 11 rfl) q_889 (ltK rfl) (ltK rfl) ?_
            refine wx_iconst (pc := 138) (dK D_Law_groups_1 12 rfl) ?_
            refine wx_idiv (pc := 139) (dK D_Law_groups_1 13 rfl) (vI_at e_v46).2 (inRk rfl) (by decide) ?_
            refine x_aloadn (pc := 140) (i0 := 1) (j := 1) (dK D_Law_groups_1 14 rfl) rfl rfl ?_
            refine bnE h ?_
            clear h
            intro v47 e_v47 h
            refine wx_getV (pc := 141) (ci := 12) (f := 4) e_v47 (dK D_Law_groups_1 15 rfl) q_776 (ltK rfl) (ltK rfl) (fun hv47 => ?_)
            refine x_iload (pc := 144) (j := 6) (dK D_Law_groups_1 16 rfl) rfl ?_
            refine rfE h ?_
            clear h
            intro r48 e_r48 h
            rw [e_r48]
            refine gdE h ?_
            clear h
            intro hk50 h
            refine bnE h ?_
            clear h
            intro p49 e_p49 h
            refine x_callX (pc := 146) (As := [V a7]) (rest := [V (v46.tdiv 2), V a3]) (mc' := 0) (ms' := 0) (dK D_Law_groups_1 17 rfl) Q_Law_69 sx_AL_get (fitK rfl) (isK_at (Z := (S, L)) (ci := 13) hk50) rfl (leK rfl) hk0 hn0 (tg_AL_get ha7 e_p49) (kxR (fun h_p49 => ?_))
            refine rfE h ?_
            clear h
            intro r51 e_r51 h
            rw [e_r51]
            refine gdE h ?_
            clear h
            intro hk52 h
            refine x_cast (pc := 149) (dK D_Law_groups_1 18 rfl) q_1033 (isK_at (Z := (S, L)) (ci := 11) hk52) ?_
            refine bnE h ?_
            clear h
            intro v53 e_v53 h
            refine wx_getI (pc := 152) (ci := 11) (f := 5) e_v53 (dK D_Law_groups_1 19 rfl) q_889 (ltK rfl) (ltK rfl) ?_
            refine wx_iconst (pc := 155) (dK D_Law_groups_1 20 rfl) ?_
            refine wx_idiv (pc := 156) (dK D_Law_groups_1 21 rfl) (vI_at e_v53).2 (inRk rfl) (by decide) ?_
            refine wx_isub (pc := 157) (dK D_Law_groups_1 22 rfl) ?_
            refine nmE h ?_
            clear h
            intro v54 e_v54 h
            refine wtop e_v54 ?_
            refine wx_mabs (pc := 158) (dK D_Law_groups_1 23 rfl) q_1728 (leK rfl) (leK rfl) hk0 hn0 (Vn_in e_v54) ?_
            refine wx_iconst (pc := 161) (dK D_Law_groups_1 24 rfl) ?_
            refine nmE h ?_
            clear h
            intro v55 e_v55 h
            refine wsk (st' := [V 1, V v55, V a3]) (congrArg (fun z9 => [V 1, z9, V a3]) (Vn e_v55)) ?_
            refine wx_icmp_ne (pc := 162) (t := 169) (dK D_Law_groups_1 25 rfl) rfl (Vn_in e_v55) (inRk rfl) (fun hc60 => ?_) (fun hc60 => ?_)
            · replace h := ifN h hc60
              refine wx_iconst (pc := 169) (dK D_Law_groups_1 28 rfl) ?_
              refine wx_iadd (pc := 170) (dK D_Law_groups_1 29 rfl) ?_
              refine nmE h ?_
              clear h
              intro v56 e_v56 h
              refine wtop e_v56 ?_
              refine x_istoren (pc := 171) (i0 := 3) (ls2 := [(3, V v56), (0, .ref 0), (1, .ref c1), (4, .ref c4), (5, V a5), (6, .ref c6), (7, V a7)]) (dK D_Law_groups_1 30 rfl) rfl (ltK rfl) rfl ?_
              refine nmE h ?_
              clear h
              intro v57 e_v57 h
              refine wx_iinc (pc := 172) (j := 6) (a := a7) (z := 1) (ls2 := [(7, V v57), (3, V v56), (0, .ref 0), (1, .ref c1), (4, .ref c4), (5, V a5), (6, .ref c6)]) (dK D_Law_groups_1 31 rfl) rfl e_v57 (ltK rfl) rfl ?_
              refine x_goto (pc := 175) (tgt := 68) (dK D_Law_groups_1 32 rfl) rfl ?_
              refine x_weak (ls' := [(0, .ref 0), (1, .ref c1), (3, V v56), (4, .ref c4), (5, V a5), (6, .ref c6), (7, V v57)]) (sbc 2 rfl (sbc 3 rfl (sbc 1 rfl (sbc 4 rfl (sbc 5 rfl (sbc 6 rfl (sbc 0 rfl sbn))))))) ?_
              replace h := ih _ _ h
              exact h (Vn_in e_v56) (Vn_in e_v57) hx
            · replace h := ifP h hc60
              refine wx_iconst (pc := 165) (dK D_Law_groups_1 26 rfl) ?_
              refine x_goto (pc := 166) (tgt := 170) (dK D_Law_groups_1 27 rfl) rfl ?_
              refine wx_iadd (pc := 170) (dK D_Law_groups_1 29 rfl) ?_
              refine nmE h ?_
              clear h
              intro v58 e_v58 h
              refine wtop e_v58 ?_
              refine x_istoren (pc := 171) (i0 := 3) (ls2 := [(3, V v58), (0, .ref 0), (1, .ref c1), (4, .ref c4), (5, V a5), (6, .ref c6), (7, V a7)]) (dK D_Law_groups_1 30 rfl) rfl (ltK rfl) rfl ?_
              refine nmE h ?_
              clear h
              intro v59 e_v59 h
              refine wx_iinc (pc := 172) (j := 6) (a := a7) (z := 1) (ls2 := [(7, V v59), (3, V v58), (0, .ref 0), (1, .ref c1), (4, .ref c4), (5, V a5), (6, .ref c6)]) (dK D_Law_groups_1 31 rfl) rfl e_v59 (ltK rfl) rfl ?_
              refine x_goto (pc := 175) (tgt := 68) (dK D_Law_groups_1 32 rfl) rfl ?_
              refine x_weak (ls' := [(0, .ref 0), (1, .ref c1), (3, V v58), (4, .ref c4), (5, V a5), (6, .ref c6), (7, V v59)]) (sbc 2 rfl (sbc 3 rfl (sbc 1 rfl (sbc 4 rfl (sbc 5 rfl (sbc 6 rfl (sbc 0 rfl sbn))))))) ?_
              replace h := ih _ _ h
              exact h (Vn_in e_v58) (Vn_in e_v59) hx
def lb2_Law_groups_11 (c1 : Nat) (c4 : Nat) (go : Int × Int × LZ → Option ((Int × LZ) × Nat × Nat)) (a3 : Int) (a5 : Int) (S : St) (L : List PC) : Option ((Int × LZ) × Nat × Nat) := bnO (gfV L c1 12 4) fun v6 => rfB v6 fun r7 => if isK L r7 13 = true then (bnO (gn_AL_size r7 S L) fun p8 => if p8 ≤ a5 then (some ((a3, (S, L)), 0, 0)) else (bnO (gfV L c1 12 4) fun v10 => rfB v10 fun r11 => if isK L r11 13 = true then (bnO (gn_AL_get r11 a5 S L) fun p12 => rfB p12 fun r14 => if isK L r14 11 = true then (bnO (gfI L r14 11 1) fun v16 => bnO (ald L 0 c4 v16) fun v17 => bnO (gfI L r14 11 5) fun v18 => if v18 ≤ 0 then (nm (wr (v17 + 0)) fun v19 => bnO (ast L 100 c4 v16 (V v19)) fun L20 => bnO (lo2_Law_groups_68 c1 c4 a5 r14 S L20 FU (a3, 0)) fun p66 => nm (wr (a5 + 1)) fun v67 => go (p66, v67, (S, L20))) else (bnO (gfI L r14 11 3) fun v68 => nm (wr (v17 + v68)) fun v69 => bnO (ast L 100 c4 v16 (V v69)) fun L70 => bnO (lo2_Law_groups_68 c1 c4 a5 r14 S L70 FU (a3, 0)) fun p71 => nm (wr (a5 + 1)) fun v72 => go (p71, v72, (S, L70)))) else none) else none)) else none
def lo2_Law_groups_11 (c1 : Nat) (c4 : Nat) : Nat → Int × Int × LZ → Option ((Int × LZ) × Nat × Nat) := lp fun go p => lb2_Law_groups_11 c1 c4 go p.1 p.2.1 p.2.2.1 p.2.2.2
theorem tl2_Law_groups_11 {sc : SC} {c1 : Nat} {c4 : Nat} {K : Option Value → List PC → Prop} {mc ms kt nt : Nat} (hkt : kt ≤ mc) (hnt : nt ≤ ms) : ∀ (N : Nat) (a : Int × Int × LZ) (q : (Int × LZ) × Nat × Nat), lo2_Law_groups_11 c1 c4 N a = some q → ∀ k n, Bd k n kt nt q → inR a.1 → inR a.2.1 → (inR q.1.1 → GX sc M_Law_groups mc ms 184 [(0, .ref 0), (1, .ref c1), (3, V q.1.1), (4, .ref c4)] [] (wz q.1.2) kt nt K) → GX sc M_Law_groups mc ms 11 [(0, .ref 0), (1, .ref c1), (3, V a.1), (4, .ref c4), (5, V a.2.1)] [] (wz a.2.2) k n K := by
  refine lp_ind2 (P := fun (a : Int × Int × LZ) (q : (Int × LZ) × Nat × Nat) => ∀ k n, Bd k n kt nt q → inR a.1 → inR a.2.1 → (inR q.1.1 → GX sc M_Law_groups mc ms 184 [(0, .ref 0), (1, .ref c1), (3, V q.1.1), (4, .ref c4)] [] (wz q.1.2) kt nt K) → GX sc M_Law_groups mc ms 11 [(0, .ref 0), (1, .ref c1), (3, V a.1), (4, .ref c4), (5, V a.2.1)] [] (wz a.2.2) k n K) (fun go ih a q h => ?_)
  obtain ⟨a3, a5, ⟨S, L⟩⟩ := a
  intro k n hb ha3 ha5 hx
  show GX sc M_Law_groups mc ms 11 [(0, .ref 0), (1, .ref c1), (3, V a3), (4, .ref c4), (5, V a5)] [] (wz (S, L)) k n K
  replace h : lb2_Law_groups_11 c1 c4 go a3 a5 S L = some q := h
  unfold lb2_Law_groups_11 at h
  refine x_iload (pc := 11) (j := 4) (dK D_Law_groups_0 7 rfl) rfl ?_
  refine x_aloadn (pc := 13) (i0 := 1) (j := 1) (dK D_Law_groups_0 8 rfl) rfl rfl ?_
  refine bnE h ?_
  clear h
  intro v6 e_v6 h
  refine wx_getV (pc := 14) (ci := 12) (f := 4) e_v6 (dK D_Law_groups_0 9 rfl) q_776 (ltK rfl) (ltK rfl) (fun hv6 => ?_)
  refine rfE h ?_
  clear h
  intro r7 e_r7 h
  rw [e_r7]
  refine gdE h ?_
  clear h
  intro hk9 h
  refine bnE h ?_
  clear h
  intro p8 e_p8 h
  refine x_callX (pc := 17) (As := []) (rest := [V a5]) (mc' := 0) (ms' := 0) (dK D_Law_groups_0 10 rfl) Q_Law_55 sx_AL_size (fitK rfl) (isK_at (Z := (S, L)) (ci := 13) hk9) rfl (leK rfl) (Nat.le_trans (bdk hb) hkt) (Nat.le_trans (bdn hb) hnt) (tg_AL_size  e_p8) (kxI' (fun h_p8 => ?_))
  refine wx_icmp_ge (pc := 20) (t := 184) (dK D_Law_groups_0 11 rfl) rfl ha5 h_p8 (fun hc74 => ?_) (fun hc74 => ?_)
  · replace h := ifP h hc74
    obtain rfl := Option.some.inj h
    refine x_weak (ls' := [(0, .ref 0), (1, .ref c1), (3, V a3), (4, .ref c4)]) (sbc 0 rfl (sbc 1 rfl (sbc 2 rfl (sbc 3 rfl sbn)))) ?_
    refine x_room (bdk hb) (bdn hb) ?_
    exact hx ha3
  · replace h := ifN h hc74
    refine x_aloadn (pc := 23) (i0 := 1) (j := 1) (dK D_Law_groups_0 12 rfl) rfl rfl ?_
    refine bnE h ?_
    clear h
    intro v10 e_v10 h
    refine wx_getV (pc := 24) (ci := 12) (f := 4) e_v10 (dK D_Law_groups_0 13 rfl) q_776 (ltK rfl) (ltK rfl) (fun hv10 => ?_)
    refine x_iload (pc := 27) (j := 4) (dK D_Law_groups_0 14 rfl) rfl ?_
    refine rfE h ?_
    clear h
    intro r11 e_r11 h
    rw [e_r11]
    refine gdE h ?_
    clear h
    intro hk13 h
    refine bnE h ?_
    clear h
    intro p12 e_p12 h
    refine x_callX (pc := 29) (As := [V a5]) (rest := []) (mc' := 0) (ms' := 0) (dK D_Law_groups_0 15 rfl) Q_Law_69 sx_AL_get (fitK rfl) (isK_at (Z := (S, L)) (ci := 13) hk13) rfl (leK rfl) (Nat.le_trans (bdk hb) hkt) (Nat.le_trans (bdn hb) hnt) (tg_AL_get ha5 e_p12) (kxR (fun h_p12 => ?_))
    refine rfE h ?_
    clear h
    intro r14 e_r14 h
    rw [e_r14]
    refine gdE h ?_
    clear h
    intro hk15 h
    refine x_cast (pc := 32) (dK D_Law_groups_0 16 rfl) q_1033 (isK_at (Z := (S, L)) (ci := 11) hk15) ?_
    refine x_astore (pc := 35) (ls2 := [(6, .ref r14), (0, .ref 0), (1, .ref c1), (3, V a3), (4, .ref c4), (5, V a5)]) (dK D_Law_groups_0 17 rfl) (ltK rfl) rfl ?_
    refine x_aload (pc := 37) (j := 4) (dK D_Law_groups_0 18 rfl) rfl ?_
    refine x_aload (pc := 39) (j := 0) (dK D_Law_groups_0 19 rfl) rfl ?_
    refine bnE h ?_
    clear h
    intro v16 e_v16 h
    refine wx_getI (pc := 41) (ci := 11) (f := 1) e_v16 (dK D_Law_groups_0 20 rfl) q_876 (ltK rfl) (ltK rfl) ?_
    refine x_dup2 (pc := 44) (dK D_Law_groups_0 21 rfl) rfl rfl ?_
    refine bnE h ?_
    clear h
    intro v17 e_v17 h
    refine wx_iald (pc := 45) e_v17 (vI_at e_v16).2 (dK D_Law_groups_0 22 rfl) ?_
    refine x_aload (pc := 46) (j := 0) (dK D_Law_groups_0 23 rfl) rfl ?_
    refine bnE h ?_
    clear h
    intro v18 e_v18 h
    refine wx_getI (pc := 48) (ci := 11) (f := 5) e_v18 (dK D_Law_groups_0 24 rfl) q_889 (ltK rfl) (ltK rfl) ?_
    refine wx_if_le (pc := 51) (t := 62) (dK D_Law_groups_0 25 rfl) rfl (vI_at e_v18).2 (fun hc73 => ?_) (fun hc73 => ?_)
    · replace h := ifP h hc73
      refine wx_iconst (pc := 62) (dK D_Law_groups_0 29 rfl) ?_
      refine wx_iadd (pc := 63) (dK D_Law_groups_0 30 rfl) ?_
      refine nmE h ?_
      clear h
      intro v19 e_v19 h
      refine wtop e_v19 ?_
      refine bnE h ?_
      clear h
      intro L20 e_L20 h
      refine wx_iast (Z := (S, L)) (pc := 64) (z := v19) e_L20 (vI_at e_v16).2 (dK D_Law_groups_0 31 rfl) ?_
      refine wx_iconst (pc := 65) (dK D_Law_groups_0 32 rfl) ?_
      refine x_istore (pc := 66) (ls2 := [(7, V 0), (6, .ref r14), (0, .ref 0), (1, .ref c1), (3, V a3), (4, .ref c4), (5, V a5)]) (dK D_Law_groups_0 33 rfl) (ltK rfl) rfl ?_
      refine bnE h ?_
      clear h
      intro p66 e_p66 h
      refine x_weak (ls' := [(0, .ref 0), (1, .ref c1), (3, V a3), (4, .ref c4), (5, V a5), (6, .ref r14), (7, V 0)]) (sbc 2 rfl (sbc 3 rfl (sbc 4 rfl (sbc 5 rfl (sbc 6 rfl (sbc 1 rfl (sbc 0 rfl sbn))))))) ?_
      refine tl2_Law_groups_68 ha5 (Nat.le_trans (bdk hb) hkt) (Nat.le_trans (bdn hb) hnt) FU _ _ e_p66 ha3 (inRk rfl) (fun hx3_p66 => ?_)
      refine nmE h ?_
      clear h
      intro v67 e_v67 h
      refine wx_iinc (pc := 178) (j := 4) (a := a5) (z := 1) (ls2 := [(5, V v67), (0, .ref 0), (1, .ref c1), (3, V p66), (4, .ref c4)]) (dK D_Law_groups_1 33 rfl) rfl e_v67 (ltK rfl) rfl ?_
      refine x_goto (pc := 181) (tgt := 11) (dK D_Law_groups_1 34 rfl) rfl ?_
      refine x_weak (ls' := [(0, .ref 0), (1, .ref c1), (3, V p66), (4, .ref c4), (5, V v67)]) (sbc 1 rfl (sbc 2 rfl (sbc 3 rfl (sbc 4 rfl (sbc 0 rfl sbn))))) ?_
      replace h := ih _ _ h
      exact h _ _ hb hx3_p66 (Vn_in e_v67) hx
    · replace h := ifN h hc73
      refine x_aload (pc := 54) (j := 0) (dK D_Law_groups_0 26 rfl) rfl ?_
      refine bnE h ?_
      clear h
      intro v68 e_v68 h
      refine wx_getI (pc := 56) (ci := 11) (f := 3) e_v68 (dK D_Law_groups_0 27 rfl) q_882 (ltK rfl) (ltK rfl) ?_
      refine x_goto (pc := 59) (tgt := 63) (dK D_Law_groups_0 28 rfl) rfl ?_
      refine wx_iadd (pc := 63) (dK D_Law_groups_0 30 rfl) ?_
      refine nmE h ?_
      clear h
      intro v69 e_v69 h
      refine wtop e_v69 ?_
      refine bnE h ?_
      clear h
      intro L70 e_L70 h
      refine wx_iast (Z := (S, L)) (pc := 64) (z := v69) e_L70 (vI_at e_v16).2 (dK D_Law_groups_0 31 rfl) ?_
      refine wx_iconst (pc := 65) (dK D_Law_groups_0 32 rfl) ?_
      refine x_istore (pc := 66) (ls2 := [(7, V 0), (6, .ref r14), (0, .ref 0), (1, .ref c1), (3, V a3), (4, .ref c4), (5, V a5)]) (dK D_Law_groups_0 33 rfl) (ltK rfl) rfl ?_
      refine bnE h ?_
      clear h
      intro p71 e_p71 h
      refine x_weak (ls' := [(0, .ref 0), (1, .ref c1), (3, V a3), (4, .ref c4), (5, V a5), (6, .ref r14), (7, V 0)]) (sbc 2 rfl (sbc 3 rfl (sbc 4 rfl (sbc 5 rfl (sbc 6 rfl (sbc 1 rfl (sbc 0 rfl sbn))))))) ?_
      refine tl2_Law_groups_68 ha5 (Nat.le_trans (bdk hb) hkt) (Nat.le_trans (bdn hb) hnt) FU _ _ e_p71 ha3 (inRk rfl) (fun hx3_p71 => ?_)
      refine nmE h ?_
      clear h
      intro v72 e_v72 h
      refine wx_iinc (pc := 178) (j := 4) (a := a5) (z := 1) (ls2 := [(5, V v72), (0, .ref 0), (1, .ref c1), (3, V p71), (4, .ref c4)]) (dK D_Law_groups_1 33 rfl) rfl e_v72 (ltK rfl) rfl ?_
      refine x_goto (pc := 181) (tgt := 11) (dK D_Law_groups_1 34 rfl) rfl ?_
      refine x_weak (ls' := [(0, .ref 0), (1, .ref c1), (3, V p71), (4, .ref c4), (5, V v72)]) (sbc 1 rfl (sbc 2 rfl (sbc 3 rfl (sbc 4 rfl (sbc 0 rfl sbn))))) ?_
      replace h := ih _ _ h
      exact h _ _ hb hx3_p71 (Vn_in e_v72) hx
def lb2_Law_groups_223 (c1 : Nat) (a3 : Int) (c4 : Nat) (a5 : Int) (a6 : Int) (a7 : Int) (c9 : Nat) (go : Int × LZ → Option ((Int × LZ) × Nat × Nat)) (a8 : Int) (S : St) (L : List PC) : Option ((Int × LZ) × Nat × Nat) := if isK L c9 14 = true then (bnO (gn_Itr_hasNext c9 S L) fun p84 => if p84 = true then (if isK L c9 14 = true then (bnO (gn_Itr_next c9 S L) fun p87 => adC p87.2.1 p87.2.2 (rfB p87.1.1 fun r89 => if isK p87.1.2.2 r89 11 = true then (bnO (gfI p87.1.2.2 r89 11 1) fun v91 => if v91 = a5 then (bnO (gfI p87.1.2.2 r89 11 5) fun v93 => if v93 ≤ 0 then (nm (wr (a8 + 0)) fun v94 => go (v94, (p87.1.2.1, p87.1.2.2))) else (bnO (gfI p87.1.2.2 r89 11 5) fun v95 => nm (wr (v95.tdiv 2)) fun v96 => if v96 = a7 then (nm (wr (a8 + 1)) fun v98 => go (v98, (p87.1.2.1, p87.1.2.2))) else (nm (wr (a8 + 0)) fun v97 => go (v97, (p87.1.2.1, p87.1.2.2))))) else (nm (wr (a8 + 0)) fun v92 => go (v92, (p87.1.2.1, p87.1.2.2)))) else none)) else none) else (some ((a8, (S, L)), 0, 0))) else none
def lo2_Law_groups_223 (c1 : Nat) (a3 : Int) (c4 : Nat) (a5 : Int) (a6 : Int) (a7 : Int) (c9 : Nat) : Nat → Int × LZ → Option ((Int × LZ) × Nat × Nat) := lp fun go p => lb2_Law_groups_223 c1 a3 c4 a5 a6 a7 c9 go p.1 p.2.1 p.2.2
theorem tl2_Law_groups_223 {sc : SC} {c1 : Nat} {a3 : Int} (ha3 : inR a3) {c4 : Nat} {a5 : Int} (ha5 : inR a5) {a6 : Int} (ha6 : inR a6) {a7 : Int} (ha7 : inR a7) {c9 : Nat} {K : Option Value → List PC → Prop} {mc ms kt nt : Nat} (hkt : kt ≤ mc) (hnt : nt ≤ ms) : ∀ (N : Nat) (a : Int × LZ) (q : (Int × LZ) × Nat × Nat), lo2_Law_groups_223 c1 a3 c4 a5 a6 a7 c9 N a = some q → ∀ k n, Bd k n kt nt q → inR a.1 → (inR q.1.1 → GX sc M_Law_groups mc ms 288 [(0, .ref 0), (1, .ref c1), (3, V a3), (4, .ref c4), (5, V a5), (6, V a6), (7, V a7), (8, V q.1.1)] [] (wz q.1.2) kt nt K) → GX sc M_Law_groups mc ms 223 [(0, .ref 0), (1, .ref c1), (3, V a3), (4, .ref c4), (5, V a5), (6, V a6), (7, V a7), (8, V a.1), (9, .ref c9)] [] (wz a.2) k n K := by
  refine lp_ind2 (P := fun (a : Int × LZ) (q : (Int × LZ) × Nat × Nat) => ∀ k n, Bd k n kt nt q → inR a.1 → (inR q.1.1 → GX sc M_Law_groups mc ms 288 [(0, .ref 0), (1, .ref c1), (3, V a3), (4, .ref c4), (5, V a5), (6, V a6), (7, V a7), (8, V q.1.1)] [] (wz q.1.2) kt nt K) → GX sc M_Law_groups mc ms 223 [(0, .ref 0), (1, .ref c1), (3, V a3), (4, .ref c4), (5, V a5), (6, V a6), (7, V a7), (8, V a.1), (9, .ref c9)] [] (wz a.2) k n K) (fun go ih a q h => ?_)
  obtain ⟨a8, ⟨S, L⟩⟩ := a
  intro k n hb ha8 hx
  show GX sc M_Law_groups mc ms 223 [(0, .ref 0), (1, .ref c1), (3, V a3), (4, .ref c4), (5, V a5), (6, V a6), (7, V a7), (8, V a8), (9, .ref c9)] [] (wz (S, L)) k n K
  replace h : lb2_Law_groups_223 c1 a3 c4 a5 a6 a7 c9 go a8 S L = some q := h
  unfold lb2_Law_groups_223 at h
  refine x_aload (pc := 223) (j := 8) (dK D_Law_groups_2 6 rfl) rfl ?_
  refine gdE h ?_
  clear h
  intro hk85 h
  refine bnE h ?_
  clear h
  intro p84 e_p84 h
  refine x_callF (pc := 225) (As := []) (rest := []) (mc' := 0) (ms' := 0) (dK D_Law_groups_2 7 rfl) LE_Itr_hasNext (List.mem_of_getElem? (i := 0) rfl) q_1469 q_843 q_845 rfl q_820 (fitK rfl) (isK_at (Z := (S, L)) (ci := 14) hk85) rfl (leK rfl) (Nat.le_trans (bdk hb) hkt) (Nat.le_trans (bdn hb) hnt) (tg_Itr_hasNext  e_p84) (kxB' ?_)
  refine wx_ifB_eq (pc := 230) (b := p84) (t := 288) (dK D_Law_groups_2 8 rfl) rfl (fun hc86 => ?_) (fun hc86 => ?_)
  · replace h := ifP h hc86
    refine x_aload (pc := 233) (j := 8) (dK D_Law_groups_2 9 rfl) rfl ?_
    refine gdE h ?_
    clear h
    intro hk88 h
    refine bnE h ?_
    clear h
    intro p87 e_p87 h
    obtain ⟨yp87, h9, e9⟩ := adE2 h
    clear h
    subst e9
    have h := h9
    clear h9
    have hk1 := Nat.le_trans (bd1 hb) hkt
    have hn1 := Nat.le_trans (bd2 hb) hnt
    replace hb := bdA hb
    refine x_callF (pc := 235) (As := []) (rest := []) (mc' := p87.2.1) (ms' := p87.2.2) (dK D_Law_groups_2 10 rfl) LE_Itr_next (List.mem_of_getElem? (i := 1) rfl) q_1471 q_852 q_854 rfl q_820 (fitK rfl) (isK_at (Z := (S, L)) (ci := 14) hk88) rfl (leK rfl) hk1 hn1 (tg_Itr_next  e_p87) (kxR (fun h_p87 => ?_))
    refine rfE h ?_
    clear h
    intro r89 e_r89 h
    rw [e_r89]
    refine gdE h ?_
    clear h
    intro hk90 h
    refine x_cast (pc := 240) (dK D_Law_groups_2 11 rfl) q_1033 (isK_at (Z := (p87.1.2.1, p87.1.2.2)) (ci := 11) hk90) ?_
    refine x_astore (pc := 243) (ls2 := [(10, .ref r89), (0, .ref 0), (1, .ref c1), (3, V a3), (4, .ref c4), (5, V a5), (6, V a6), (7, V a7), (8, V a8), (9, .ref c9)]) (dK D_Law_groups_2 12 rfl) (ltK rfl) rfl ?_
    refine x_iload (pc := 245) (j := 8) (dK D_Law_groups_2 13 rfl) rfl ?_
    refine x_aload (pc := 247) (j := 0) (dK D_Law_groups_2 14 rfl) rfl ?_
    refine bnE h ?_
    clear h
    intro v91 e_v91 h
    refine wx_getI (pc := 249) (ci := 11) (f := 1) e_v91 (dK D_Law_groups_2 15 rfl) q_876 (ltK rfl) (ltK rfl) ?_
    refine x_iload (pc := 252) (j := 5) (dK D_Law_groups_2 16 rfl) rfl ?_
    refine wx_icmp_ne (pc := 254) (t := 281) (dK D_Law_groups_2 17 rfl) rfl (vI_at e_v91).2 ha5 (fun hc101 => ?_) (fun hc101 => ?_)
    · replace h := ifN h hc101
      refine wx_iconst (pc := 281) (dK D_Law_groups_2 29 rfl) ?_
      refine wx_iadd (pc := 282) (dK D_Law_groups_2 30 rfl) ?_
      refine nmE h ?_
      clear h
      intro v92 e_v92 h
      refine wtop e_v92 ?_
      refine x_istore (pc := 283) (ls2 := [(8, V v92), (10, .ref r89), (0, .ref 0), (1, .ref c1), (3, V a3), (4, .ref c4), (5, V a5), (6, V a6), (7, V a7), (9, .ref c9)]) (dK D_Law_groups_2 31 rfl) (ltK rfl) rfl ?_
      refine x_goto (pc := 285) (tgt := 223) (dK D_Law_groups_2 32 rfl) rfl ?_
      refine x_weak (ls' := [(0, .ref 0), (1, .ref c1), (3, V a3), (4, .ref c4), (5, V a5), (6, V a6), (7, V a7), (8, V v92), (9, .ref c9)]) (sbc 2 rfl (sbc 3 rfl (sbc 4 rfl (sbc 5 rfl (sbc 6 rfl (sbc 7 rfl (sbc 8 rfl (sbc 0 rfl (sbc 9 rfl sbn))))))))) ?_
      replace h := ih _ _ h
      exact h _ _ hb (Vn_in e_v92) hx
    · replace h := ifP h hc101
      refine x_aload (pc := 257) (j := 0) (dK D_Law_groups_2 18 rfl) rfl ?_
      refine bnE h ?_
      clear h
      intro v93 e_v93 h
      refine wx_getI (pc := 259) (ci := 11) (f := 5) e_v93 (dK D_Law_groups_2 19 rfl) q_889 (ltK rfl) (ltK rfl) ?_
      refine wx_if_le (pc := 262) (t := 281) (dK D_Law_groups_2 20 rfl) rfl (vI_at e_v93).2 (fun hc100 => ?_) (fun hc100 => ?_)
      · replace h := ifP h hc100
        refine wx_iconst (pc := 281) (dK D_Law_groups_2 29 rfl) ?_
        refine wx_iadd (pc := 282) (dK D_Law_groups_2 30 rfl) ?_
        refine nmE h ?_
        clear h
        intro v94 e_v94 h
        refine wtop e_v94 ?_
        refine x_istore (pc := 283) (ls2 := [(8, V v94), (10, .ref r89), (0, .ref 0), (1, .ref c1), (3, V a3), (4, .ref c4), (5, V a5), (6, V a6), (7, V a7), (9, .ref c9)]) (dK D_Law_groups_2 31 rfl) (ltK rfl) rfl ?_
        refine x_goto (pc := 285) (tgt := 223) (dK D_Law_groups_2 32 rfl) rfl ?_
        refine x_weak (ls' := [(0, .ref 0), (1, .ref c1), (3, V a3), (4, .ref c4), (5, V a5), (6, V a6), (7, V a7), (8, V v94), (9, .ref c9)]) (sbc 2 rfl (sbc 3 rfl (sbc 4 rfl (sbc 5 rfl (sbc 6 rfl (sbc 7 rfl (sbc 8 rfl (sbc 0 rfl (sbc 9 rfl sbn))))))))) ?_
        replace h := ih _ _ h
        exact h _ _ hb (Vn_in e_v94) hx
      · replace h := ifN h hc100
        refine x_aload (pc := 265) (j := 0) (dK D_Law_groups_2 21 rfl) rfl ?_
        refine bnE h ?_
        clear h
        intro v95 e_v95 h
        refine wx_getI (pc := 267) (ci := 11) (f := 5) e_v95 (dK D_Law_groups_2 22 rfl) q_889 (ltK rfl) (ltK rfl) ?_
        refine wx_iconst (pc := 270) (dK D_Law_groups_2 23 rfl) ?_
        refine wx_idiv (pc := 271) (dK D_Law_groups_2 24 rfl) (vI_at e_v95).2 (inRk rfl) (by decide) ?_
        refine x_iload (pc := 272) (j := 7) (dK D_Law_groups_2 25 rfl) rfl ?_
        refine nmE h ?_
        clear h
        intro v96 e_v96 h
        refine wsk (st' := [V a7, V v96, V a8]) (congrArg (fun z9 => [V a7, z9, V a8]) (Vn e_v96)) ?_
        refine wx_icmp_ne (pc := 274) (t := 281) (dK D_Law_groups_2 26 rfl) rfl (Vn_in e_v96) ha7 (fun hc99 => ?_) (fun hc99 => ?_)
        · replace h := ifN h hc99
          refine wx_iconst (pc := 281) (dK D_Law_groups_2 29 rfl) ?_
          refine wx_iadd (pc := 282) (dK D_Law_groups_2 30 rfl) ?_
          refine nmE h ?_
          clear h
          intro v97 e_v97 h
          refine wtop e_v97 ?_
          refine x_istore (pc := 283) (ls2 := [(8, V v97), (10, .ref r89), (0, .ref 0), (1, .ref c1), (3, V a3), (4, .ref c4), (5, V a5), (6, V a6), (7, V a7), (9, .ref c9)]) (dK D_Law_groups_2 31 rfl) (ltK rfl) rfl ?_
          refine x_goto (pc := 285) (tgt := 223) (dK D_Law_groups_2 32 rfl) rfl ?_
          refine x_weak (ls' := [(0, .ref 0), (1, .ref c1), (3, V a3), (4, .ref c4), (5, V a5), (6, V a6), (7, V a7), (8, V v97), (9, .ref c9)]) (sbc 2 rfl (sbc 3 rfl (sbc 4 rfl (sbc 5 rfl (sbc 6 rfl (sbc 7 rfl (sbc 8 rfl (sbc 0 rfl (sbc 9 rfl sbn))))))))) ?_
          replace h := ih _ _ h
          exact h _ _ hb (Vn_in e_v97) hx
        · replace h := ifP h hc99
          refine wx_iconst (pc := 277) (dK D_Law_groups_2 27 rfl) ?_
          refine x_goto (pc := 278) (tgt := 282) (dK D_Law_groups_2 28 rfl) rfl ?_
          refine wx_iadd (pc := 282) (dK D_Law_groups_2 30 rfl) ?_
          refine nmE h ?_
          clear h
          intro v98 e_v98 h
          refine wtop e_v98 ?_
          refine x_istore (pc := 283) (ls2 := [(8, V v98), (10, .ref r89), (0, .ref 0), (1, .ref c1), (3, V a3), (4, .ref c4), (5, V a5), (6, V a6), (7, V a7), (9, .ref c9)]) (dK D_Law_groups_2 31 rfl) (ltK rfl) rfl ?_
          refine x_goto (pc := 285) (tgt := 223) (dK D_Law_groups_2 32 rfl) rfl ?_
          refine x_weak (ls' := [(0, .ref 0), (1, .ref c1), (3, V a3), (4, .ref c4), (5, V a5), (6, V a6), (7, V a7), (8, V v98), (9, .ref c9)]) (sbc 2 rfl (sbc 3 rfl (sbc 4 rfl (sbc 5 rfl (sbc 6 rfl (sbc 7 rfl (sbc 8 rfl (sbc 0 rfl (sbc 9 rfl sbn))))))))) ?_
          replace h := ih _ _ h
          exact h _ _ hb (Vn_in e_v98) hx
  · replace h := ifN h hc86
    obtain rfl := Option.some.inj h
    refine x_weak (ls' := [(0, .ref 0), (1, .ref c1), (3, V a3), (4, .ref c4), (5, V a5), (6, V a6), (7, V a7), (8, V a8)]) (sbc 0 rfl (sbc 1 rfl (sbc 2 rfl (sbc 3 rfl (sbc 4 rfl (sbc 5 rfl (sbc 6 rfl (sbc 7 rfl sbn)))))))) ?_
    refine x_room (bdk hb) (bdn hb) ?_
    exact hx ha8
def lb2_Law_groups_200 (c1 : Nat) (a3 : Int) (c4 : Nat) (a5 : Int) (go : Int × Int × LZ → Option (((Bool × LZ) ⊕ (Int × LZ)) × Nat × Nat)) (a6 : Int) (a7 : Int) (S : St) (L : List PC) : Option (((Bool × LZ) ⊕ (Int × LZ)) × Nat × Nat) := if isK L c1 12 = true then (bnO (gn_LP_pages c1 S L) fun p76 => nm (wr (p76.tdiv 2)) fun v78 => if v78 < a7 then (some (.inr (a6, (S, L)), 0, 0)) else (bnO (gfV L c1 12 4) fun v79 => rfB v79 fun r80 => if isK L r80 13 = true then (bnO (gn_AL_iterator r80 S L) fun p81 => adC p81.2.1 p81.2.2 (rfB p81.1.1 fun r83 => bnO (lo2_Law_groups_223 c1 a3 c4 a5 a6 a7 r83 FU (0, (p81.1.2.1, p81.1.2.2))) fun p102 => adC p102.2.1 p102.2.2 (if p102.1.1 ≤ 0 then (nm (wr (a6 + 0)) fun v103 => bnO (fn_FP_groupOn 0 a5 a7 p102.1.2.1) fun p104 => if p104.1 = 0 then (adC 2 12 (if p104.2 = p102.1.1 then (nm (wr (a7 + 1)) fun v105 => go (v103, v105, (p102.1.2.1, p102.1.2.2))) else (some (.inl (false, (p102.1.2.1, p102.1.2.2)), 0, 0)))) else none) else (nm (wr (a6 + 1)) fun v107 => bnO (fn_FP_groupOn 0 a5 a7 p102.1.2.1) fun p108 => if p108.1 = 0 then (adC 2 12 (if p108.2 = p102.1.1 then (nm (wr (a7 + 1)) fun v109 => go (v107, v109, (p102.1.2.1, p102.1.2.2))) else (some (.inl (false, (p102.1.2.1, p102.1.2.2)), 0, 0)))) else none)))) else none)) else none
def lo2_Law_groups_200 (c1 : Nat) (a3 : Int) (c4 : Nat) (a5 : Int) : Nat → Int × Int × LZ → Option (((Bool × LZ) ⊕ (Int × LZ)) × Nat × Nat) := lp fun go p => lb2_Law_groups_200 c1 a3 c4 a5 go p.1 p.2.1 p.2.2.1 p.2.2.2
theorem tl2_Law_groups_200 {sc : SC} {c1 : Nat} {a3 : Int} (ha3 : inR a3) {c4 : Nat} {a5 : Int} (ha5 : inR a5) {K : Option Value → List PC → Prop} {mc ms kt nt : Nat} (hkt : kt ≤ mc) (hnt : nt ≤ ms) : ∀ (N : Nat) (a : Int × Int × LZ) (q : ((Bool × LZ) ⊕ (Int × LZ)) × Nat × Nat), lo2_Law_groups_200 c1 a3 c4 a5 N a = some q → ∀ k n, Bd k n kt nt q → inR a.1 → inR a.2.1 → (∀ e, q.1 = .inr e → inR e.1 → GX sc M_Law_groups mc ms 324 [(0, .ref 0), (1, .ref c1), (3, V a3), (4, .ref c4), (5, V a5), (6, V e.1)] [] (wz e.2) kt nt K) → (∀ r, q.1 = .inl r → K (some (V (bi r.1))) (wz r.2)) → GX sc M_Law_groups mc ms 200 [(0, .ref 0), (1, .ref c1), (3, V a3), (4, .ref c4), (5, V a5), (6, V a.1), (7, V a.2.1)] [] (wz a.2.2) k n K := by
  refine lp_ind2 (P := fun (a : Int × Int × LZ) (q : ((Bool × LZ) ⊕ (Int × LZ)) × Nat × Nat) => ∀ k n, Bd k n kt nt q → inR a.1 → inR a.2.1 → (∀ e, q.1 = .inr e → inR e.1 → GX sc M_Law_groups mc ms 324 [(0, .ref 0), (1, .ref c1), (3, V a3), (4, .ref c4), (5, V a5), (6, V e.1)] [] (wz e.2) kt nt K) → (∀ r, q.1 = .inl r → K (some (V (bi r.1))) (wz r.2)) → GX sc M_Law_groups mc ms 200 [(0, .ref 0), (1, .ref c1), (3, V a3), (4, .ref c4), (5, V a5), (6, V a.1), (7, V a.2.1)] [] (wz a.2.2) k n K) (fun go ih a q h => ?_)
  obtain ⟨a6, a7, ⟨S, L⟩⟩ := a
  intro k n hb ha6 ha7 hx hr
  show GX sc M_Law_groups mc ms 200 [(0, .ref 0), (1, .ref c1), (3, V a3), (4, .ref c4), (5, V a5), (6, V a6), (7, V a7)] [] (wz (S, L)) k n K
  replace h : lb2_Law_groups_200 c1 a3 c4 a5 go a6 a7 S L = some q := h
  unfold lb2_Law_groups_200 at h
  refine x_iload (pc := 200) (j := 6) (dK D_Law_groups_1 44 rfl) rfl ?_
  refine x_aloadn (pc := 202) (i0 := 1) (j := 1) (dK D_Law_groups_1 45 rfl) rfl rfl ?_
  refine gdE h ?_
  clear h
  intro hk77 h
  refine bnE h ?_
  clear h
  intro p76 e_p76 h
  refine x_callX (pc := 203) (As := []) (rest := [V a7]) (mc' := 0) (ms' := 0) (dK D_Law_groups_1 46 rfl) Q_Law_42 sx_LP_pages (fitK rfl) (isK_at (Z := (S, L)) (ci := 12) hk77) rfl (leK rfl) (Nat.le_trans (bdk hb) hkt) (Nat.le_trans (bdn hb) hnt) (tg_LP_pages  e_p76) (kxI' (fun h_p76 => ?_))
  refine wx_iconst (pc := 206) (dK D_Law_groups_1 47 rfl) ?_
  refine wx_idiv (pc := 207) (dK D_Law_groups_1 48 rfl) h_p76 (inRk rfl) (by decide) ?_
  refine nmE h ?_
  clear h
  intro v78 e_v78 h
  refine wtop e_v78 ?_
  refine wx_icmp_gt (pc := 208) (t := 324) (dK D_Law_groups_1 49 rfl) rfl ha7 (Vn_in e_v78) (fun hc112 => ?_) (fun hc112 => ?_)
  · replace h := ifP h hc112
    obtain rfl := Option.some.inj h
    refine x_weak (ls' := [(0, .ref 0), (1, .ref c1), (3, V a3), (4, .ref c4), (5, V a5), (6, V a6)]) (sbc 0 rfl (sbc 1 rfl (sbc 2 rfl (sbc 3 rfl (sbc 4 rfl (sbc 5 rfl sbn)))))) ?_
    refine x_room (bdk hb) (bdn hb) ?_
    exact hx (a6, (S, L)) rfl ha6
  · replace h := ifN h hc112
    refine wx_iconst (pc := 211) (dK D_Law_groups_2 0 rfl) ?_
    refine x_istore (pc := 212) (ls2 := [(8, V 0), (0, .ref 0), (1, .ref c1), (3, V a3), (4, .ref c4), (5, V a5), (6, V a6), (7, V a7)]) (dK D_Law_groups_2 1 rfl) (ltK rfl) rfl ?_
    refine x_aloadn (pc := 214) (i0 := 1) (j := 2) (dK D_Law_groups_2 2 rfl) rfl rfl ?_
    refine bnE h ?_
    clear h
    intro v79 e_v79 h
    refine wx_getV (pc := 215) (ci := 12) (f := 4) e_v79 (dK D_Law_groups_2 3 rfl) q_776 (ltK rfl) (ltK rfl) (fun hv79 => ?_)
    refine rfE h ?_
    clear h
    intro r80 e_r80 h
    rw [e_r80]
    refine gdE h ?_
    clear h
    intro hk82 h
    refine bnE h ?_
    clear h
    intro p81 e_p81 h
    obtain ⟨yp81, h9, e9⟩ := adE2 h
    clear h
    subst e9
    have h := h9
    clear h9
    have hk1 := Nat.le_trans (bd1 hb) hkt
    have hn1 := Nat.le_trans (bd2 hb) hnt
    replace hb := bdA hb
    refine x_callX (pc := 218) (As := []) (rest := []) (mc' := p81.2.1) (ms' := p81.2.2) (dK D_Law_groups_2 4 rfl) Q_Law_179 sx_AL_iterator (fitK rfl) (isK_at (Z := (S, L)) (ci := 13) hk82) rfl (leK rfl) hk1 hn1 (tg_AL_iterator  e_p81) (kxR (fun h_p81 => ?_))
    refine x_astoreV (pc := 221) (ls2 := [(9, p81.1.1), (8, V 0), (0, .ref 0), (1, .ref c1), (3, V a3), (4, .ref c4), (5, V a5), (6, V a6), (7, V a7)]) h_p81 (dK D_Law_groups_2 5 rfl) (ltK rfl) rfl ?_
    refine rfE h ?_
    clear h
    intro r83 e_r83 h
    rw [e_r83]
    refine bnE h ?_
    clear h
    intro p102 e_p102 h
    obtain ⟨yp102, h9, e9⟩ := adE2 h
    clear h
    subst e9
    have h := h9
    clear h9
    have hk1 := Nat.le_trans (bd1 hb) hkt
    have hn1 := Nat.le_trans (bd2 hb) hnt
    replace hb := bdA hb
    refine x_weak (ls' := [(0, .ref 0), (1, .ref c1), (3, V a3), (4, .ref c4), (5, V a5), (6, V a6), (7, V a7), (8, V 0), (9, .ref r83)]) (sbc 2 rfl (sbc 3 rfl (sbc 4 rfl (sbc 5 rfl (sbc 6 rfl (sbc 7 rfl (sbc 8 rfl (sbc 1 rfl (sbc 0 rfl sbn))))))))) ?_
    refine tl2_Law_groups_223 ha3 ha5 ha6 ha7 hk1 hn1 FU _ _ e_p102 _ _ ⟨Nat.le_refl _, Nat.le_refl _⟩ (inRk rfl) (fun hx8_p102 => ?_)
    refine x_iload (pc := 288) (j := 5) (dK D_Law_groups_2 33 rfl) rfl ?_
    refine x_iload (pc := 290) (j := 7) (dK D_Law_groups_2 34 rfl) rfl ?_
    refine wx_if_le (pc := 292) (t := 299) (dK D_Law_groups_2 35 rfl) rfl hx8_p102 (fun hc111 => ?_) (fun hc111 => ?_)
    · replace h := ifP h hc111
      refine wx_iconst (pc := 299) (dK D_Law_groups_2 38 rfl) ?_
      refine wx_iadd (pc := 300) (dK D_Law_groups_2 39 rfl) ?_
      refine nmE h ?_
      clear h
      intro v103 e_v103 h
      refine wtop e_v103 ?_
      refine x_istore (pc := 301) (ls2 := [(6, V v103), (0, .ref 0), (1, .ref c1), (3, V a3), (4, .ref c4), (5, V a5), (7, V a7), (8, V p102.1.1)]) (dK D_Law_groups_2 40 rfl) (ltK rfl) rfl ?_
      refine x_aloadn (pc := 303) (i0 := 0) (j := 1) (dK D_Law_groups_2 41 rfl) rfl rfl ?_
      refine x_iload (pc := 304) (j := 5) (dK D_Law_groups_2 42 rfl) rfl ?_
      refine x_iload (pc := 306) (j := 6) (dK D_Law_groups_2 43 rfl) rfl ?_
      refine bnE h ?_
      clear h
      intro p104 e_p104 h
      refine gdE h ?_
      clear h
      intro hz_p104 h
      obtain ⟨yp104, h9, e9⟩ := adE2 h
      clear h
      subst e9
      have h := h9
      clear h9
      have hk1 := Nat.le_trans (bd1 hb) hkt
      have hn1 := Nat.le_trans (bd2 hb) hnt
      replace hb := bdA hb
      refine x_callX (pc := 308) (As := [V a5, V a7]) (rest := []) (mc' := 2) (ms' := 12) (dK D_Law_groups_2 44 rfl) Q_Law_306 sx_FP_groupOn (fitK rfl) (isK_at (Z := (p102.1.2.1, p102.1.2.2)) (ci := 10) isK0) rfl (leK rfl) hk1 hn1 (clTI hz_p104 (fun E => tf_FP_groupOn (X := xz p102.1.2.2) rfl xz_hc ha5 ha7 e_p104)) (kxI' (fun h_p104 => ?_))
      refine x_iload (pc := 311) (j := 7) (dK D_Law_groups_2 45 rfl) rfl ?_
      refine wx_icmp_eq (pc := 313) (t := 318) (dK D_Law_groups_2 46 rfl) rfl h_p104 hx8_p102 (fun hc106 => ?_) (fun hc106 => ?_)
      · replace h := ifP h hc106
        refine nmE h ?_
        clear h
        intro v105 e_v105 h
        refine wx_iinc (pc := 318) (j := 6) (a := a7) (z := 1) (ls2 := [(7, V v105), (6, V v103), (0, .ref 0), (1, .ref c1), (3, V a3), (4, .ref c4), (5, V a5), (8, V p102.1.1)]) (dK D_Law_groups_2 49 rfl) rfl e_v105 (ltK rfl) rfl ?_
        refine x_goto (pc := 321) (tgt := 200) (dK D_Law_groups_3 0 rfl) rfl ?_
        refine x_weak (ls' := [(0, .ref 0), (1, .ref c1), (3, V a3), (4, .ref c4), (5, V a5), (6, V v103), (7, V v105)]) (sbc 2 rfl (sbc 3 rfl (sbc 4 rfl (sbc 5 rfl (sbc 6 rfl (sbc 1 rfl (sbc 0 rfl sbn))))))) ?_
        replace h := ih _ _ h
        exact h _ _ hb (Vn_in e_v103) (Vn_in e_v105) hx hr
      · replace h := ifN h hc106
        refine wx_iconst (pc := 316) (dK D_Law_groups_2 47 rfl) ?_
        obtain rfl := Option.some.inj h
        exact wk_iretB (pc := 317) (b := false) (dK D_Law_groups_2 48 rfl) rfl (Nat.le_trans (bdk hb) hkt) (Nat.le_trans (bdn hb) hnt) (hr (false, (p102.1.2.1, p102.1.2.2)) rfl)
    · replace h := ifN h hc111
      refine wx_iconst (pc := 295) (dK D_Law_groups_2 36 rfl) ?_
      refine x_goto (pc := 296) (tgt := 300) (dK D_Law_groups_2 37 rfl) rfl ?_
      refine wx_iadd (pc := 300) (dK D_Law_groups_2 39 rfl) ?_
      refine nmE h ?_
      clear h
      intro v107 e_v107 h
      refine wtop e_v107 ?_
      refine x_istore (pc := 301) (ls2 := [(6, V v107), (0, .ref 0), (1, .ref c1), (3, V a3), (4, .ref c4), (5, V a5), (7, V a7), (8, V p102.1.1)]) (dK D_Law_groups_2 40 rfl) (ltK rfl) rfl ?_
      refine x_aloadn (pc := 303) (i0 := 0) (j := 1) (dK D_Law_groups_2 41 rfl) rfl rfl ?_
      refine x_iload (pc := 304) (j := 5) (dK D_Law_groups_2 42 rfl) rfl ?_
      refine x_iload (pc := 306) (j := 6) (dK D_Law_groups_2 43 rfl) rfl ?_
      refine bnE h ?_
      clear h
      intro p108 e_p108 h
      refine gdE h ?_
      clear h
      intro hz_p108 h
      obtain ⟨yp108, h9, e9⟩ := adE2 h
      clear h
      subst e9
      have h := h9
      clear h9
      have hk1 := Nat.le_trans (bd1 hb) hkt
      have hn1 := Nat.le_trans (bd2 hb) hnt
      replace hb := bdA hb
      refine x_callX (pc := 308) (As := [V a5, V a7]) (rest := []) (mc' := 2) (ms' := 12) (dK D_Law_groups_2 44 rfl) Q_Law_306 sx_FP_groupOn (fitK rfl) (isK_at (Z := (p102.1.2.1, p102.1.2.2)) (ci := 10) isK0) rfl (leK rfl) hk1 hn1 (clTI hz_p108 (fun E => tf_FP_groupOn (X := xz p102.1.2.2) rfl xz_hc ha5 ha7 e_p108)) (kxI' (fun h_p108 => ?_))
      refine x_iload (pc := 311) (j := 7) (dK D_Law_groups_2 45 rfl) rfl ?_
      refine wx_icmp_eq (pc := 313) (t := 318) (dK D_Law_groups_2 46 rfl) rfl h_p108 hx8_p102 (fun hc110 => ?_) (fun hc110 => ?_)
      · replace h := ifP h hc110
        refine nmE h ?_
        clear h
        intro v109 e_v109 h
        refine wx_iinc (pc := 318) (j := 6) (a := a7) (z := 1) (ls2 := [(7, V v109), (6, V v107), (0, .ref 0), (1, .ref c1), (3, V a3), (4, .ref c4), (5, V a5), (8, V p102.1.1)]) (dK D_Law_groups_2 49 rfl) rfl e_v109 (ltK rfl) rfl ?_
        refine x_goto (pc := 321) (tgt := 200) (dK D_Law_groups_3 0 rfl) rfl ?_
        refine x_weak (ls' := [(0, .ref 0), (1, .ref c1), (3, V a3), (4, .ref c4), (5, V a5), (6, V v107), (7, V v109)]) (sbc 2 rfl (sbc 3 rfl (sbc 4 rfl (sbc 5 rfl (sbc 6 rfl (sbc 1 rfl (sbc 0 rfl sbn))))))) ?_
        replace h := ih _ _ h
        exact h _ _ hb (Vn_in e_v107) (Vn_in e_v109) hx hr
      · replace h := ifN h hc110
        refine wx_iconst (pc := 316) (dK D_Law_groups_2 47 rfl) ?_
        obtain rfl := Option.some.inj h
        exact wk_iretB (pc := 317) (b := false) (dK D_Law_groups_2 48 rfl) rfl (Nat.le_trans (bdk hb) hkt) (Nat.le_trans (bdn hb) hnt) (hr (false, (p102.1.2.1, p102.1.2.2)) rfl)
def lb2_Law_groups_187 (c1 : Nat) (a3 : Int) (c4 : Nat) (go : Int × LZ → Option (((Bool × LZ) ⊕ (LZ)) × Nat × Nat)) (a5 : Int) (S : St) (L : List PC) : Option (((Bool × LZ) ⊕ (LZ)) × Nat × Nat) := if 10 ≤ a5 then (some (.inr (S, L), 0, 0)) else (bnT (lo2_Law_groups_200 c1 a3 c4 a5 FU (0, 0, (S, L))) (fun r114 => some (.inl (r114.1, (r114.2.1, r114.2.2)), 0, 0)) fun e115 => bnO (fn_FP_spreadsOf 0 a5 e115.2.1) fun p116 => if p116.1 = 0 then (adC 1 6 (if p116.2 = e115.1 then (bnO (fn_FP_revenueOfGroup 0 a5 e115.2.1) fun p117 => if p117.1 = 0 then (adC 1 6 (bnO (ald e115.2.2 0 c4 a5) fun v118 => if p117.2 = v118 then (nm (wr (a5 + 1)) fun v119 => go (v119, (e115.2.1, e115.2.2))) else (some (.inl (false, (e115.2.1, e115.2.2)), 0, 0)))) else none) else (some (.inl (false, (e115.2.1, e115.2.2)), 0, 0)))) else none)
def lo2_Law_groups_187 (c1 : Nat) (a3 : Int) (c4 : Nat) : Nat → Int × LZ → Option (((Bool × LZ) ⊕ (LZ)) × Nat × Nat) := lp fun go p => lb2_Law_groups_187 c1 a3 c4 go p.1 p.2.1 p.2.2
theorem tl2_Law_groups_187 {sc : SC} {c1 : Nat} {a3 : Int} (ha3 : inR a3) {c4 : Nat} {K : Option Value → List PC → Prop} {mc ms kt nt : Nat} (hkt : kt ≤ mc) (hnt : nt ≤ ms) : ∀ (N : Nat) (a : Int × LZ) (q : ((Bool × LZ) ⊕ (LZ)) × Nat × Nat), lo2_Law_groups_187 c1 a3 c4 N a = some q → ∀ k n, Bd k n kt nt q → inR a.1 → (∀ e, q.1 = .inr e → GX sc M_Law_groups mc ms 357 [(0, .ref 0), (1, .ref c1), (3, V a3)] [] (wz e) kt nt K) → (∀ r, q.1 = .inl r → K (some (V (bi r.1))) (wz r.2)) → GX sc M_Law_groups mc ms 187 [(0, .ref 0), (1, .ref c1), (3, V a3), (4, .ref c4), (5, V a.1)] [] (wz a.2) k n K := by
  refine lp_ind2 (P := fun (a : Int × LZ) (q : ((Bool × LZ) ⊕ (LZ)) × Nat × Nat) => ∀ k n, Bd k n kt nt q → inR a.1 → (∀ e, q.1 = .inr e → GX sc M_Law_groups mc ms 357 [(0, .ref 0), (1, .ref c1), (3, V a3)] [] (wz e) kt nt K) → (∀ r, q.1 = .inl r → K (some (V (bi r.1))) (wz r.2)) → GX sc M_Law_groups mc ms 187 [(0, .ref 0), (1, .ref c1), (3, V a3), (4, .ref c4), (5, V a.1)] [] (wz a.2) k n K) (fun go ih a q h => ?_)
  obtain ⟨a5, ⟨S, L⟩⟩ := a
  intro k n hb ha5 hx hr
  show GX sc M_Law_groups mc ms 187 [(0, .ref 0), (1, .ref c1), (3, V a3), (4, .ref c4), (5, V a5)] [] (wz (S, L)) k n K
  replace h : lb2_Law_groups_187 c1 a3 c4 go a5 S L = some q := h
  unfold lb2_Law_groups_187 at h
  refine x_iload (pc := 187) (j := 4) (dK D_Law_groups_1 37 rfl) rfl ?_
  refine wx_bipush (pc := 189) (dK D_Law_groups_1 38 rfl) rfl ?_
  refine wx_icmp_ge (pc := 191) (t := 357) (dK D_Law_groups_1 39 rfl) rfl ha5 (inRk rfl) (fun hc122 => ?_) (fun hc122 => ?_)
  · replace h := ifP h hc122
    obtain rfl := Option.some.inj h
    refine x_weak (ls' := [(0, .ref 0), (1, .ref c1), (3, V a3)]) (sbc 0 rfl (sbc 1 rfl (sbc 2 rfl sbn))) ?_
    refine x_room (bdk hb) (bdn hb) ?_
    exact hx (S, L) rfl
  · replace h := ifN h hc122
    refine wx_iconst (pc := 194) (dK D_Law_groups_1 40 rfl) ?_
    refine x_istore (pc := 195) (ls2 := [(6, V 0), (0, .ref 0), (1, .ref c1), (3, V a3), (4, .ref c4), (5, V a5)]) (dK D_Law_groups_1 41 rfl) (ltK rfl) rfl ?_
    refine wx_iconst (pc := 197) (dK D_Law_groups_1 42 rfl) ?_
    refine x_istore (pc := 198) (ls2 := [(7, V 0), (6, V 0), (0, .ref 0), (1, .ref c1), (3, V a3), (4, .ref c4), (5, V a5)]) (dK D_Law_groups_1 43 rfl) (ltK rfl) rfl ?_
    refine bnTE h ?_ ?_
    · clear h
      intro p113 r114 yp113 e_p113 f_p113 h e9
      subst e9
      have hk1 := Nat.le_trans (bd1 hb) hkt
      have hn1 := Nat.le_trans (bd2 hb) hnt
      replace hb := bdA hb
      refine x_weak (ls' := [(0, .ref 0), (1, .ref c1), (3, V a3), (4, .ref c4), (5, V a5), (6, V 0), (7, V 0)]) (sbc 2 rfl (sbc 3 rfl (sbc 4 rfl (sbc 5 rfl (sbc 6 rfl (sbc 1 rfl (sbc 0 rfl sbn))))))) ?_
      refine tl2_Law_groups_200 ha3 ha5 hk1 hn1 FU _ _ e_p113 _ _ ⟨Nat.le_refl _, Nat.le_refl _⟩ (inRk rfl) (inRk rfl) (fun _ g_ => by rw [f_p113] at g_; exact nomatch g_) (fun r_ g_  => ?_)
      obtain rfl := Sum.inl.inj (f_p113.symm.trans g_)
      obtain rfl := Option.some.inj h
      exact hr (r114.1, (r114.2.1, r114.2.2)) rfl
    · clear h
      intro p113 e115 yp113 e_p113 f_p113 h e9
      subst e9
      have hk1 := Nat.le_trans (bd1 hb) hkt
      have hn1 := Nat.le_trans (bd2 hb) hnt
      replace hb := bdA hb
      refine x_weak (ls' := [(0, .ref 0), (1, .ref c1), (3, V a3), (4, .ref c4), (5, V a5), (6, V 0), (7, V 0)]) (sbc 2 rfl (sbc 3 rfl (sbc 4 rfl (sbc 5 rfl (sbc 6 rfl (sbc 1 rfl (sbc 0 rfl sbn))))))) ?_
      refine tl2_Law_groups_200 ha3 ha5 hk1 hn1 FU _ _ e_p113 _ _ ⟨Nat.le_refl _, Nat.le_refl _⟩ (inRk rfl) (inRk rfl) (fun e_ g_ hx6_p113 => ?_) (fun _ g_ => by rw [f_p113] at g_; exact nomatch g_)
      obtain rfl := Sum.inr.inj (f_p113.symm.trans g_)
      refine x_aloadn (pc := 324) (i0 := 0) (j := 0) (dK D_Law_groups_3 1 rfl) rfl rfl ?_
      refine x_iload (pc := 325) (j := 4) (dK D_Law_groups_3 2 rfl) rfl ?_
      refine bnE h ?_
      clear h
      intro p116 e_p116 h
      refine gdE h ?_
      clear h
      intro hz_p116 h
      obtain ⟨yp116, h9, e9⟩ := adE2 h
      clear h
      subst e9
      have h := h9
      clear h9
      have hk1 := Nat.le_trans (bd1 hb) hkt
      have hn1 := Nat.le_trans (bd2 hb) hnt
      replace hb := bdA hb
      refine x_callX (pc := 327) (As := [V a5]) (rest := []) (mc' := 1) (ms' := 6) (dK D_Law_groups_3 3 rfl) Q_Law_309 sx_FP_spreadsOf (fitK rfl) (isK_at (Z := (e115.2.1, e115.2.2)) (ci := 10) isK0) rfl (leK rfl) hk1 hn1 (clTI hz_p116 (fun E => tf_FP_spreadsOf (X := xz e115.2.2) rfl xz_hc ha5 e_p116)) (kxI' (fun h_p116 => ?_))
      refine x_iload (pc := 330) (j := 5) (dK D_Law_groups_3 4 rfl) rfl ?_
      refine wx_icmp_ne (pc := 332) (t := 349) (dK D_Law_groups_3 5 rfl) rfl h_p116 hx6_p113 (fun hc121 => ?_) (fun hc121 => ?_)
      · replace h := ifN h hc121
        refine wx_iconst (pc := 349) (dK D_Law_groups_3 13 rfl) ?_
        obtain rfl := Option.some.inj h
        exact wk_iretB (pc := 350) (b := false) (dK D_Law_groups_3 14 rfl) rfl (Nat.le_trans (bdk hb) hkt) (Nat.le_trans (bdn hb) hnt) (hr (false, (e115.2.1, e115.2.2)) rfl)
      · replace h := ifP h hc121
        refine x_aloadn (pc := 335) (i0 := 0) (j := 0) (dK D_Law_groups_3 6 rfl) rfl rfl ?_
        refine x_iload (pc := 336) (j := 4) (dK D_Law_groups_3 7 rfl) rfl ?_
        refine bnE h ?_
        clear h
        intro p117 e_p117 h
        refine gdE h ?_
        clear h
        intro hz_p117 h
        obtain ⟨yp117, h9, e9⟩ := adE2 h
        clear h
        subst e9
        have h := h9
        clear h9
        have hk1 := Nat.le_trans (bd1 hb) hkt
        have hn1 := Nat.le_trans (bd2 hb) hnt
        replace hb := bdA hb
        refine x_callX (pc := 338) (As := [V a5]) (rest := []) (mc' := 1) (ms' := 6) (dK D_Law_groups_3 8 rfl) Q_Law_312 sx_FP_revenueOfGroup (fitK rfl) (isK_at (Z := (e115.2.1, e115.2.2)) (ci := 10) isK0) rfl (leK rfl) hk1 hn1 (clTI hz_p117 (fun E => tf_FP_revenueOfGroup (X := xz e115.2.2) rfl xz_hc ha5 e_p117)) (kxI' (fun h_p117 => ?_))
        refine x_aload (pc := 341) (j := 3) (dK D_Law_groups_3 9 rfl) rfl ?_
        refine x_iload (pc := 343) (j := 4) (dK D_Law_groups_3 10 rfl) rfl ?_
        refine bnE h ?_
        clear h
        intro v118 e_v118 h
        refine wx_iald (pc := 345) e_v118 ha5 (dK D_Law_groups_3 11 rfl) ?_
        refine wx_icmp_eq (pc := 346) (t := 351) (dK D_Law_groups_3 12 rfl) rfl h_p117 (vI_at e_v118).2 (fun hc120 => ?_) (fun hc120 => ?_)
        · replace h := ifP h hc120
          refine nmE h ?_
          clear h
          intro v119 e_v119 h
          refine wx_iinc (pc := 351) (j := 4) (a := a5) (z := 1) (ls2 := [(5, V v119), (0, .ref 0), (1, .ref c1), (3, V a3), (4, .ref c4), (6, V e115.1)]) (dK D_Law_groups_3 15 rfl) rfl e_v119 (ltK rfl) rfl ?_
          refine x_goto (pc := 354) (tgt := 187) (dK D_Law_groups_3 16 rfl) rfl ?_
          refine x_weak (ls' := [(0, .ref 0), (1, .ref c1), (3, V a3), (4, .ref c4), (5, V v119)]) (sbc 1 rfl (sbc 2 rfl (sbc 3 rfl (sbc 4 rfl (sbc 0 rfl sbn))))) ?_
          replace h := ih _ _ h
          exact h _ _ hb (Vn_in e_v119) hx hr
        · replace h := ifN h hc120
          refine wx_iconst (pc := 349) (dK D_Law_groups_3 13 rfl) ?_
          obtain rfl := Option.some.inj h
          exact wk_iretB (pc := 350) (b := false) (dK D_Law_groups_3 14 rfl) rfl (Nat.le_trans (bdk hb) hkt) (Nat.le_trans (bdn hb) hnt) (hr (false, (e115.2.1, e115.2.2)) rfl)
def gn_Law_groups (c1 : Nat) (a2 : Int) (S : St) (L : List PC) : Option ((Bool × LZ) × Nat × Nat) := if (0 : Int) ≤ 10 ∧ (10 : Int) ≤ 16384 then (if L.length < 900000000 then adC 1 (10 : Int).toNat (nw L (100, List.replicate (10 : Int).toNat (.int 0)) fun r4 L5 => bnO (lo2_Law_groups_11 c1 r4 FU (0, 0, (S, L5))) fun p75 => adC p75.2.1 p75.2.2 (bnT (lo2_Law_groups_187 c1 p75.1.1 r4 FU (0, (p75.1.2.1, p75.1.2.2))) (fun r124 => some ((r124.1, (r124.2.1, r124.2.2)), 0, 0)) fun e125 => bnO (fn_FP_nearRivals 0 e125.1) fun p126 => if p126 = p75.1.1 then (bnO (gn_Law_items c1 e125.1 e125.2) fun p127 => adC p127.2.1 p127.2.2 (if p127.1.1 = true then (bnO (gn_Law_better c1 p127.1.2.1 p127.1.2.2) fun p129 => adC p129.2.1 p129.2.2 (if p129.1.1 = true then (some ((true, (p129.1.2.1, p129.1.2.2)), 0, 0)) else (some ((false, (p129.1.2.1, p129.1.2.2)), 0, 0)))) else (some ((false, (p127.1.2.1, p127.1.2.2)), 0, 0)))) else (some ((false, (e125.1, e125.2)), 0, 0)))) else none) else none
theorem te_Law_groups {sc : SC} {c1 : Nat} {a2 : Int} (ha2 : inR a2) {S : St} {L : List PC} {q : (Bool × LZ) × Nat × Nat} (h : gn_Law_groups c1 a2 S L = some q) {mc ms k n : Nat} (hb : Bd k n mc ms q) : GX sc M_Law_groups mc ms 0 [(0, .ref 0), (1, .ref c1), (2, V a2)] [] (wz (S, L)) k n (KXB q.1.1 q.1.2) := by
  unfold gn_Law_groups at h
  refine wx_iconst (pc := 0) (dK D_Law_groups_0 0 rfl) ?_
  refine x_istoren (pc := 1) (i0 := 3) (ls2 := [(3, V 0), (0, .ref 0), (1, .ref c1), (2, V a2)]) (dK D_Law_groups_0 1 rfl) rfl (ltK rfl) rfl ?_
  refine wx_bipush (pc := 2) (dK D_Law_groups_0 2 rfl) rfl ?_
  refine gdE h ?_
  clear h
  intro hz1 h
  refine gdE h ?_
  clear h
  intro hl2 h
  obtain ⟨y3, h9, e9⟩ := adE2 h
  clear h
  subst e9
  have h := h9
  clear h9
  refine nwE h ?_
  clear h
  intro r4 L5 e_r4 e_L5 h
  have hk1 := bd1 hb
  have hn1 := bd2 hb
  replace hb := bdA hb
  refine wn_newa_int (Z := (S, L)) (pc := 4) e_r4 e_L5 hl2 (inRk rfl) hz1 (dK D_Law_groups_0 3 rfl) q_68 hk1 hn1 ?_
  refine x_astore (pc := 6) (ls2 := [(4, .ref r4), (3, V 0), (0, .ref 0), (1, .ref c1), (2, V a2)]) (dK D_Law_groups_0 4 rfl) (ltK rfl) rfl ?_
  refine wx_iconst (pc := 8) (dK D_Law_groups_0 5 rfl) ?_
  refine x_istore (pc := 9) (ls2 := [(5, V 0), (4, .ref r4), (3, V 0), (0, .ref 0), (1, .ref c1), (2, V a2)]) (dK D_Law_groups_0 6 rfl) (ltK rfl) rfl ?_
  refine bnE h ?_
  clear h
  intro p75 e_p75 h
  obtain ⟨yp75, h9, e9⟩ := adE2 h
  clear h
  subst e9
  have h := h9
  clear h9
  have hk1 := bd1 hb
  have hn1 := bd2 hb
  replace hb := bdA hb
  refine x_weak (ls' := [(0, .ref 0), (1, .ref c1), (3, V 0), (4, .ref r4), (5, V 0)]) (sbc 3 rfl (sbc 4 rfl (sbc 2 rfl (sbc 1 rfl (sbc 0 rfl sbn))))) ?_
  refine tl2_Law_groups_11  hk1 hn1 FU _ _ e_p75 _ _ ⟨Nat.le_refl _, Nat.le_refl _⟩ (inRk rfl) (inRk rfl) (fun hx3_p75 => ?_)
  refine wx_iconst (pc := 184) (dK D_Law_groups_1 35 rfl) ?_
  refine x_istore (pc := 185) (ls2 := [(5, V 0), (0, .ref 0), (1, .ref c1), (3, V p75.1.1), (4, .ref r4)]) (dK D_Law_groups_1 36 rfl) (ltK rfl) rfl ?_
  refine bnTE h ?_ ?_
  · clear h
    intro p123 r124 yp123 e_p123 f_p123 h e9
    subst e9
    have hk1 := bd1 hb
    have hn1 := bd2 hb
    replace hb := bdA hb
    refine x_weak (ls' := [(0, .ref 0), (1, .ref c1), (3, V p75.1.1), (4, .ref r4), (5, V 0)]) (sbc 1 rfl (sbc 2 rfl (sbc 3 rfl (sbc 4 rfl (sbc 0 rfl sbn))))) ?_
    refine tl2_Law_groups_187 hx3_p75 hk1 hn1 FU _ _ e_p123 _ _ ⟨Nat.le_refl _, Nat.le_refl _⟩ (inRk rfl) (fun _ g_ => by rw [f_p123] at g_; exact nomatch g_) (fun r_ g_  => ?_)
    obtain rfl := Sum.inl.inj (f_p123.symm.trans g_)
    obtain rfl := Option.some.inj h
    exact ⟨rfl, rfl⟩
  · clear h
    intro p123 e125 yp123 e_p123 f_p123 h e9
    subst e9
    have hk1 := bd1 hb
    have hn1 := bd2 hb
    replace hb := bdA hb
    refine x_weak (ls' := [(0, .ref 0), (1, .ref c1), (3, V p75.1.1), (4, .ref r4), (5, V 0)]) (sbc 1 rfl (sbc 2 rfl (sbc 3 rfl (sbc 4 rfl (sbc 0 rfl sbn))))) ?_
    refine tl2_Law_groups_187 hx3_p75 hk1 hn1 FU _ _ e_p123 _ _ ⟨Nat.le_refl _, Nat.le_refl _⟩ (inRk rfl) (fun e_ g_  => ?_) (fun _ g_ => by rw [f_p123] at g_; exact nomatch g_)
    obtain rfl := Sum.inr.inj (f_p123.symm.trans g_)
    refine x_aloadn (pc := 357) (i0 := 0) (j := 0) (dK D_Law_groups_3 17 rfl) rfl rfl ?_
    refine bnE h ?_
    clear h
    intro p126 e_p126 h
    refine x_callX (pc := 358) (As := []) (rest := []) (mc' := 0) (ms' := 0) (dK D_Law_groups_3 18 rfl) Q_Law_315 sx_FP_nearRivals (fitK rfl) (isK_at (Z := (e125.1, e125.2)) (ci := 10) isK0) rfl (leK rfl) (bdk hb) (bdn hb) (clI (fun E => tf_FP_nearRivals (X := xz e125.2) xz_hc  e_p126)) (kxI' (fun h_p126 => ?_))
    refine x_iloadn (pc := 361) (i0 := 3) (j := 2) (dK D_Law_groups_3 19 rfl) rfl rfl ?_
    refine wx_icmp_ne (pc := 362) (t := 385) (dK D_Law_groups_3 20 rfl) rfl h_p126 hx3_p75 (fun hc131 => ?_) (fun hc131 => ?_)
    · replace h := ifN h hc131
      refine wx_iconst (pc := 385) (dK D_Law_groups_3 31 rfl) ?_
      obtain rfl := Option.some.inj h
      exact wk_iretB (pc := 386) (b := false) (dK D_Law_groups_3 32 rfl) rfl (bdk hb) (bdn hb) ⟨rfl, rfl⟩
    · replace h := ifP h hc131
      refine x_aloadn (pc := 365) (i0 := 0) (j := 0) (dK D_Law_groups_3 21 rfl) rfl rfl ?_
      refine x_aloadn (pc := 366) (i0 := 1) (j := 1) (dK D_Law_groups_3 22 rfl) rfl rfl ?_
      refine bnE h ?_
      clear h
      intro p127 e_p127 h
      obtain ⟨yp127, h9, e9⟩ := adE2 h
      clear h
      subst e9
      have h := h9
      clear h9
      have hk1 := bd1 hb
      have hn1 := bd2 hb
      replace hb := bdA hb
      refine x_callS (pc := 367) (As := [.ref 0, .ref c1]) (rest := []) (mc' := p127.2.1) (ms' := p127.2.2) (dK D_Law_groups_3 23 rfl) Q_Law_318 (fitK rfl) rfl (leK rfl) hk1 hn1 (tg_Law_items  e_p127) (kxB' ?_)
      refine wx_ifB_eq (pc := 370) (b := p127.1.1) (t := 385) (dK D_Law_groups_3 24 rfl) rfl (fun hc128 => ?_) (fun hc128 => ?_)
      · replace h := ifP h hc128
        refine x_aloadn (pc := 373) (i0 := 0) (j := 0) (dK D_Law_groups_3 25 rfl) rfl rfl ?_
        refine x_aloadn (pc := 374) (i0 := 1) (j := 1) (dK D_Law_groups_3 26 rfl) rfl rfl ?_
        refine bnE h ?_
        clear h
        intro p129 e_p129 h
        obtain ⟨yp129, h9, e9⟩ := adE2 h
        clear h
        subst e9
        have h := h9
        clear h9
        have hk1 := bd1 hb
        have hn1 := bd2 hb
        replace hb := bdA hb
        refine x_callS (pc := 375) (As := [.ref 0, .ref c1]) (rest := []) (mc' := p129.2.1) (ms' := p129.2.2) (dK D_Law_groups_3 27 rfl) Q_Law_321 (fitK rfl) rfl (leK rfl) hk1 hn1 (tg_Law_better  e_p129) (kxB' ?_)
        refine wx_ifB_eq (pc := 378) (b := p129.1.1) (t := 385) (dK D_Law_groups_3 28 rfl) rfl (fun hc130 => ?_) (fun hc130 => ?_)
        · replace h := ifP h hc130
          refine wx_iconst (pc := 381) (dK D_Law_groups_3 29 rfl) ?_
          refine x_goto (pc := 382) (tgt := 386) (dK D_Law_groups_3 30 rfl) rfl ?_
          obtain rfl := Option.some.inj h
          exact wk_iretB (pc := 386) (b := true) (dK D_Law_groups_3 32 rfl) rfl (bdk hb) (bdn hb) ⟨rfl, rfl⟩
        · replace h := ifN h hc130
          refine wx_iconst (pc := 385) (dK D_Law_groups_3 31 rfl) ?_
          obtain rfl := Option.some.inj h
          exact wk_iretB (pc := 386) (b := false) (dK D_Law_groups_3 32 rfl) rfl (bdk hb) (bdn hb) ⟨rfl, rfl⟩
      · replace h := ifN h hc128
        refine wx_iconst (pc := 385) (dK D_Law_groups_3 31 rfl) ?_
        obtain rfl := Option.some.inj h
        exact wk_iretB (pc := 386) (b := false) (dK D_Law_groups_3 32 rfl) rfl (bdk hb) (bdn hb) ⟨rfl, rfl⟩
theorem tg_Law_groups {sc : SC} {c1 : Nat} {a2 : Int} (ha2 : inR a2) {S : St} {L : List PC} {q : (Bool × LZ) × Nat × Nat} (h : gn_Law_groups c1 a2 S L = some q) : EvX sc M_Law_groups [.ref 0, .ref c1, V a2] (wz (S, L)) q.2.1 q.2.2 (KXB q.1.1 q.1.2) := EvX.of pn2_Law rfl (leK rfl) (te_Law_groups ha2 h ⟨Nat.le_of_eq (Nat.zero_add _), Nat.le_of_eq (Nat.zero_add _)⟩)
