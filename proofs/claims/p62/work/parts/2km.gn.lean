def lb2_Law_changes_710 (c1 : Nat) (a9 : Int) (a10 : Int) (a11 : Int) (c12 : Nat) (go : LZ → Option ((LZ) × Nat × Nat))  (S : St) (L : List PC) : Option ((LZ) × Nat × Nat) := if isK L c12 14 = true then (bnO (gn_Itr_hasNext c12 S L) fun p85 => if p85 = true then (if isK L c12 14 = true then (bnO (gn_Itr_next c12 S L) fun p88 => adC p88.2.1 p88.2.2 (rfB p88.1.1 fun r90 => if isK p88.1.2.2 r90 17 = true then (if isK p88.1.2.2 r90 17 = true then (bnO (gn_Integer_intValue r90 p88.1.2.1 p88.1.2.2) fun p92 => bnO (gfV p88.1.2.2 c1 12 4) fun v94 => rfB v94 fun r95 => if isK p88.1.2.2 r95 13 = true then (bnO (gn_AL_get r95 p92 p88.1.2.1 p88.1.2.2) fun p96 => rfB p96 fun r98 => if isK p88.1.2.2 r98 11 = true then (bnO (pf p88.1.2.2 r98 11 5 (V 0)) fun L100 => go (p88.1.2.1, L100)) else none) else none) else none) else none)) else none) else (some ((S, L), 0, 0))) else none
def lo2_Law_changes_710 (c1 : Nat) (a9 : Int) (a10 : Int) (a11 : Int) (c12 : Nat) : Nat → LZ → Option ((LZ) × Nat × Nat) := lp fun go p => lb2_Law_changes_710 c1 a9 a10 a11 c12 go p.1 p.2
theorem tl2_Law_changes_710 {sc : SC} {c1 : Nat} {a9 : Int} (ha9 : inR a9) {a10 : Int} (ha10 : inR a10) {a11 : Int} (ha11 : inR a11) {c12 : Nat} {K : Option Value → List PC → Prop} {mc ms kt nt : Nat} (hkt : kt ≤ mc) (hnt : nt ≤ ms) : ∀ (N : Nat) (a : LZ) (q : (LZ) × Nat × Nat), lo2_Law_changes_710 c1 a9 a10 a11 c12 N a = some q → ∀ k n, Bd k n kt nt q → (GX sc M_Law_changes mc ms 754 [(0, .ref 0), (1, .ref c1), (9, V a9), (10, V a10), (11, V a11)] [] (wz q.1) kt nt K) → GX sc M_Law_changes mc ms 710 [(0, .ref 0), (1, .ref c1), (9, V a9), (10, V a10), (11, V a11), (12, .ref c12)] [] (wz a) k n K := by
  refine lp_ind2 (P := fun (a : LZ) (q : (LZ) × Nat × Nat) => ∀ k n, Bd k n kt nt q → (GX sc M_Law_changes mc ms 754 [(0, .ref 0), (1, .ref c1), (9, V a9), (10, V a10), (11, V a11)] [] (wz q.1) kt nt K) → GX sc M_Law_changes mc ms 710 [(0, .ref 0), (1, .ref c1), (9, V a9), (10, V a10), (11, V a11), (12, .ref c12)] [] (wz a) k n K) (fun go ih a q h => ?_)
  obtain ⟨S, L⟩ := a
  intro k n hb hx
  show GX sc M_Law_changes mc ms 710 [(0, .ref 0), (1, .ref c1), (9, V a9), (10, V a10), (11, V a11), (12, .ref c12)] [] (wz (S, L)) k n K
  replace h : lb2_Law_changes_710 c1 a9 a10 a11 c12 go S L = some q := h
  unfold lb2_Law_changes_710 at h
  refine x_aload (pc := 710) (j := 5) (dK D_Law_changes_6 38 rfl) rfl ?_
  refine gdE h ?_
  clear h
  intro hk86 h
  refine bnE h ?_
  clear h
  intro p85 e_p85 h
  refine x_callF (pc := 712) (As := []) (rest := []) (mc' := 0) (ms' := 0) (dK D_Law_changes_6 39 rfl) LE_Itr_hasNext (List.mem_of_getElem? (i := 0) rfl) q_1469 q_843 q_845 rfl q_820 (fitK rfl) (isK_at (Z := (S, L)) (ci := 14) hk86) rfl (leK rfl) (Nat.le_trans (bdk hb) hkt) (Nat.le_trans (bdn hb) hnt) (tg_Itr_hasNext  e_p85) (kxB' ?_)
  refine wx_ifB_eq (pc := 717) (b := p85) (t := 754) (dK D_Law_changes_6 40 rfl) rfl (fun hc87 => ?_) (fun hc87 => ?_)
  · replace h := ifP h hc87
    refine x_aload (pc := 720) (j := 5) (dK D_Law_changes_6 41 rfl) rfl ?_
    refine gdE h ?_
    clear h
    intro hk89 h
    refine bnE h ?_
    clear h
    intro p88 e_p88 h
    obtain ⟨yp88, h9, e9⟩ := adE2 h
    clear h
    subst e9
    have h := h9
    clear h9
    have hk1 := Nat.le_trans (bd1 hb) hkt
    have hn1 := Nat.le_trans (bd2 hb) hnt
    replace hb := bdA hb
    refine x_callF (pc := 722) (As := []) (rest := []) (mc' := p88.2.1) (ms' := p88.2.2) (dK D_Law_changes_6 42 rfl) LE_Itr_next (List.mem_of_getElem? (i := 1) rfl) q_1471 q_852 q_854 rfl q_820 (fitK rfl) (isK_at (Z := (S, L)) (ci := 14) hk89) rfl (leK rfl) hk1 hn1 (tg_Itr_next  e_p88) (kxR (fun h_p88 => ?_))
    refine rfE h ?_
    clear h
    intro r90 e_r90 h
    rw [e_r90]
    refine gdE h ?_
    clear h
    intro hk91 h
    refine x_cast (pc := 727) (dK D_Law_changes_6 43 rfl) q_1269 (isK_at (Z := (p88.1.2.1, p88.1.2.2)) (ci := 17) hk91) ?_
    refine gdE h ?_
    clear h
    intro hk93 h
    refine bnE h ?_
    clear h
    intro p92 e_p92 h
    refine x_callX (pc := 730) (As := []) (rest := []) (mc' := 0) (ms' := 0) (dK D_Law_changes_6 44 rfl) Q_Law_158 sx_Integer_intValue (fitK rfl) (isK_at (Z := (p88.1.2.1, p88.1.2.2)) (ci := 17) hk93) rfl (leK rfl) (Nat.le_trans (bdk hb) hkt) (Nat.le_trans (bdn hb) hnt) (tg_Integer_intValue  e_p92) (kxI' (fun h_p92 => ?_))
    refine x_istore (pc := 733) (ls2 := [(13, V p92), (0, .ref 0), (1, .ref c1), (9, V a9), (10, V a10), (11, V a11), (12, .ref c12)]) (dK D_Law_changes_6 45 rfl) (ltK rfl) rfl ?_
    refine x_aloadn (pc := 735) (i0 := 1) (j := 2) (dK D_Law_changes_6 46 rfl) rfl rfl ?_
    refine bnE h ?_
    clear h
    intro v94 e_v94 h
    refine wx_getV (pc := 736) (ci := 12) (f := 4) e_v94 (dK D_Law_changes_6 47 rfl) q_776 (ltK rfl) (ltK rfl) (fun hv94 => ?_)
    refine x_iload (pc := 739) (j := 0) (dK D_Law_changes_6 48 rfl) rfl ?_
    refine rfE h ?_
    clear h
    intro r95 e_r95 h
    rw [e_r95]
    refine gdE h ?_
    clear h
    intro hk97 h
    refine bnE h ?_
    clear h
    intro p96 e_p96 h
    refine x_callX (pc := 741) (As := [V p92]) (rest := []) (mc' := 0) (ms' := 0) (dK D_Law_changes_6 49 rfl) Q_Law_69 sx_AL_get (fitK rfl) (isK_at (Z := (p88.1.2.1, p88.1.2.2)) (ci := 13) hk97) rfl (leK rfl) (Nat.le_trans (bdk hb) hkt) (Nat.le_trans (bdn hb) hnt) (tg_AL_get h_p92 e_p96) (kxR (fun h_p96 => ?_))
    refine rfE h ?_
    clear h
    intro r98 e_r98 h
    rw [e_r98]
    refine gdE h ?_
    clear h
    intro hk99 h
    refine x_cast (pc := 744) (dK D_Law_changes_7 0 rfl) q_1033 (isK_at (Z := (p88.1.2.1, p88.1.2.2)) (ci := 11) hk99) ?_
    refine wx_iconst (pc := 747) (dK D_Law_changes_7 1 rfl) ?_
    refine bnE h ?_
    clear h
    intro L100 e_L100 h
    refine wx_put (Z := (p88.1.2.1, p88.1.2.2)) (pc := 748) (ci := 11) (f := 5) e_L100 (dK D_Law_changes_7 2 rfl) q_889 (ltK rfl) (ltK rfl) rfl okInt ?_
    refine x_goto (pc := 751) (tgt := 710) (dK D_Law_changes_7 3 rfl) rfl ?_
    refine x_weak (ls' := [(0, .ref 0), (1, .ref c1), (9, V a9), (10, V a10), (11, V a11), (12, .ref c12)]) (sbc 1 rfl (sbc 2 rfl (sbc 3 rfl (sbc 4 rfl (sbc 5 rfl (sbc 6 rfl sbn)))))) ?_
    replace h := ih _ _ h
    exact h _ _ hb hx
  · replace h := ifN h hc87
    obtain rfl := Option.some.inj h
    refine x_weak (ls' := [(0, .ref 0), (1, .ref c1), (9, V a9), (10, V a10), (11, V a11)]) (sbc 0 rfl (sbc 1 rfl (sbc 2 rfl (sbc 3 rfl (sbc 4 rfl sbn))))) ?_
    refine x_room (bdk hb) (bdn hb) ?_
    exact hx 
def lb2_Law_changes_769 (c1 : Nat) (a9 : Int) (a10 : Int) (a11 : Int) (c12 : Nat) (go : LZ → Option ((LZ) × Nat × Nat))  (S : St) (L : List PC) : Option ((LZ) × Nat × Nat) := if isK L c12 14 = true then (bnO (gn_Itr_hasNext c12 S L) fun p110 => if p110 = true then (if isK L c12 14 = true then (bnO (gn_Itr_next c12 S L) fun p113 => adC p113.2.1 p113.2.2 (rfB p113.1.1 fun r115 => if isK p113.1.2.2 r115 17 = true then (if isK p113.1.2.2 r115 17 = true then (bnO (gn_Integer_intValue r115 p113.1.2.1 p113.1.2.2) fun p117 => bnO (gfV p113.1.2.2 c1 12 6) fun v119 => rfB v119 fun r120 => if isK p113.1.2.2 r120 13 = true then (bnO (gn_AL_get r120 p117 p113.1.2.1 p113.1.2.2) fun p121 => rfB p121 fun r123 => if isK p113.1.2.2 r123 11 = true then (bnO (pf p113.1.2.2 r123 11 5 (V 0)) fun L125 => go (p113.1.2.1, L125)) else none) else none) else none) else none)) else none) else (some ((S, L), 0, 0))) else none
def lo2_Law_changes_769 (c1 : Nat) (a9 : Int) (a10 : Int) (a11 : Int) (c12 : Nat) : Nat → LZ → Option ((LZ) × Nat × Nat) := lp fun go p => lb2_Law_changes_769 c1 a9 a10 a11 c12 go p.1 p.2
theorem tl2_Law_changes_769 {sc : SC} {c1 : Nat} {a9 : Int} (ha9 : inR a9) {a10 : Int} (ha10 : inR a10) {a11 : Int} (ha11 : inR a11) {c12 : Nat} {K : Option Value → List PC → Prop} {mc ms kt nt : Nat} (hkt : kt ≤ mc) (hnt : nt ≤ ms) : ∀ (N : Nat) (a : LZ) (q : (LZ) × Nat × Nat), lo2_Law_changes_769 c1 a9 a10 a11 c12 N a = some q → ∀ k n, Bd k n kt nt q → (GX sc M_Law_changes mc ms 813 [(0, .ref 0), (9, V a9), (10, V a10), (11, V a11)] [] (wz q.1) kt nt K) → GX sc M_Law_changes mc ms 769 [(0, .ref 0), (1, .ref c1), (9, V a9), (10, V a10), (11, V a11), (12, .ref c12)] [] (wz a) k n K := by
  refine lp_ind2 (P := fun (a : LZ) (q : (LZ) × Nat × Nat) => ∀ k n, Bd k n kt nt q → (GX sc M_Law_changes mc ms 813 [(0, .ref 0), (9, V a9), (10, V a10), (11, V a11)] [] (wz q.1) kt nt K) → GX sc M_Law_changes mc ms 769 [(0, .ref 0), (1, .ref c1), (9, V a9), (10, V a10), (11, V a11), (12, .ref c12)] [] (wz a) k n K) (fun go ih a q h => ?_)
  obtain ⟨S, L⟩ := a
  intro k n hb hx
  show GX sc M_Law_changes mc ms 769 [(0, .ref 0), (1, .ref c1), (9, V a9), (10, V a10), (11, V a11), (12, .ref c12)] [] (wz (S, L)) k n K
  replace h : lb2_Law_changes_769 c1 a9 a10 a11 c12 go S L = some q := h
  unfold lb2_Law_changes_769 at h
  refine x_aload (pc := 769) (j := 5) (dK D_Law_changes_7 11 rfl) rfl ?_
  refine gdE h ?_
  clear h
  intro hk111 h
  refine bnE h ?_
  clear h
  intro p110 e_p110 h
  refine x_callF (pc := 771) (As := []) (rest := []) (mc' := 0) (ms' := 0) (dK D_Law_changes_7 12 rfl) LE_Itr_hasNext (List.mem_of_getElem? (i := 0) rfl) q_1469 q_843 q_845 rfl q_820 (fitK rfl) (isK_at (Z := (S, L)) (ci := 14) hk111) rfl (leK rfl) (Nat.le_trans (bdk hb) hkt) (Nat.le_trans (bdn hb) hnt) (tg_Itr_hasNext  e_p110) (kxB' ?_)
  refine wx_ifB_eq (pc := 776) (b := p110) (t := 813) (dK D_Law_changes_7 13 rfl) rfl (fun hc112 => ?_) (fun hc112 => ?_)
  · replace h := ifP h hc112
    refine x_aload (pc := 779) (j := 5) (dK D_Law_changes_7 14 rfl) rfl ?_
    refine gdE h ?_
    clear h
    intro hk114 h
    refine bnE h ?_
    clear h
    intro p113 e_p113 h
    obtain ⟨yp113, h9, e9⟩ := adE2 h
    clear h
    subst e9
    have h := h9
    clear h9
    have hk1 := Nat.le_trans (bd1 hb) hkt
    have hn1 := Nat.le_trans (bd2 hb) hnt
    replace hb := bdA hb
    refine x_callF (pc := 781) (As := []) (rest := []) (mc' := p113.2.1) (ms' := p113.2.2) (dK D_Law_changes_7 15 rfl) LE_Itr_next (List.mem_of_getElem? (i := 1) rfl) q_1471 q_852 q_854 rfl q_820 (fitK rfl) (isK_at (Z := (S, L)) (ci := 14) hk114) rfl (leK rfl) hk1 hn1 (tg_Itr_next  e_p113) (kxR (fun h_p113 => ?_))
    refine rfE h ?_
    clear h
    intro r115 e_r115 h
    rw [e_r115]
    refine gdE h ?_
    clear h
    intro hk116 h
    refine x_cast (pc := 786) (dK D_Law_changes_7 16 rfl) q_1269 (isK_at (Z := (p113.1.2.1, p113.1.2.2)) (ci := 17) hk116) ?_
    refine gdE h ?_
    clear h
    intro hk118 h
    refine bnE h ?_
    clear h
    intro p117 e_p117 h
    refine x_callX (pc := 789) (As := []) (rest := []) (mc' := 0) (ms' := 0) (dK D_Law_changes_7 17 rfl) Q_Law_158 sx_Integer_intValue (fitK rfl) (isK_at (Z := (p113.1.2.1, p113.1.2.2)) (ci := 17) hk118) rfl (leK rfl) (Nat.le_trans (bdk hb) hkt) (Nat.le_trans (bdn hb) hnt) (tg_Integer_intValue  e_p117) (kxI' (fun h_p117 => ?_))
    refine x_istore (pc := 792) (ls2 := [(13, V p117), (0, .ref 0), (1, .ref c1), (9, V a9), (10, V a10), (11, V a11), (12, .ref c12)]) (dK D_Law_changes_7 18 rfl) (ltK rfl) rfl ?_
    refine x_aloadn (pc := 794) (i0 := 1) (j := 2) (dK D_Law_changes_7 19 rfl) rfl rfl ?_
    refine bnE h ?_
    clear h
    intro v119 e_v119 h
    refine wx_getV (pc := 795) (ci := 12) (f := 6) e_v119 (dK D_Law_changes_7 20 rfl) q_780 (ltK rfl) (ltK rfl) (fun hv119 => ?_)
    refine x_iload (pc := 798) (j := 0) (dK D_Law_changes_7 21 rfl) rfl ?_
    refine rfE h ?_
    clear h
    intro r120 e_r120 h
    rw [e_r120]
    refine gdE h ?_
    clear h
    intro hk122 h
    refine bnE h ?_
    clear h
    intro p121 e_p121 h
    refine x_callX (pc := 800) (As := [V p117]) (rest := []) (mc' := 0) (ms' := 0) (dK D_Law_changes_7 22 rfl) Q_Law_69 sx_AL_get (fitK rfl) (isK_at (Z := (p113.1.2.1, p113.1.2.2)) (ci := 13) hk122) rfl (leK rfl) (Nat.le_trans (bdk hb) hkt) (Nat.le_trans (bdn hb) hnt) (tg_AL_get h_p117 e_p121) (kxR (fun h_p121 => ?_))
    refine rfE h ?_
    clear h
    intro r123 e_r123 h
    rw [e_r123]
    refine gdE h ?_
    clear h
    intro hk124 h
    refine x_cast (pc := 803) (dK D_Law_changes_7 23 rfl) q_1033 (isK_at (Z := (p113.1.2.1, p113.1.2.2)) (ci := 11) hk124) ?_
    refine wx_iconst (pc := 806) (dK D_Law_changes_7 24 rfl) ?_
    refine bnE h ?_
    clear h
    intro L125 e_L125 h
    refine wx_put (Z := (p113.1.2.1, p113.1.2.2)) (pc := 807) (ci := 11) (f := 5) e_L125 (dK D_Law_changes_7 25 rfl) q_889 (ltK rfl) (ltK rfl) rfl okInt ?_
    refine x_goto (pc := 810) (tgt := 769) (dK D_Law_changes_7 26 rfl) rfl ?_
    refine x_weak (ls' := [(0, .ref 0), (1, .ref c1), (9, V a9), (10, V a10), (11, V a11), (12, .ref c12)]) (sbc 1 rfl (sbc 2 rfl (sbc 3 rfl (sbc 4 rfl (sbc 5 rfl (sbc 6 rfl sbn)))))) ?_
    replace h := ih _ _ h
    exact h _ _ hb hx
  · replace h := ifN h hc112
    obtain rfl := Option.some.inj h
    refine x_weak (ls' := [(0, .ref 0), (9, V a9), (10, V a10), (11, V a11)]) (sbc 0 rfl (sbc 2 rfl (sbc 3 rfl (sbc 4 rfl sbn)))) ?_
    refine x_room (bdk hb) (bdn hb) ?_
    exact hx 
def jf2_Law_changes_688 (c1 : Nat) (a9 : Int) (a10 : Int) (st0 : Int) (S : St) (L : List PC) : Option ((Int × LZ) × Nat × Nat) := if st0 = 0 then (bnO (fn_FP_clear 0 a9 S) fun p71 => if p71.1 = 0 then (adC 1 6 (if st0 = 0 then (if p71.2.1 = (-4) then (if st0 = 0 then (some ((0, (p71.2.2, L)), 0, 0)) else (some ((1, (p71.2.2, L)), 0, 0))) else (some (((-1), (p71.2.2, L)), 0, 0))) else (if p71.2.1 = a10 then (if st0 = 0 then (some ((0, (p71.2.2, L)), 0, 0)) else (some ((1, (p71.2.2, L)), 0, 0))) else (some (((-1), (p71.2.2, L)), 0, 0))))) else none) else (bnO (gfV L c1 12 4) fun v77 => rfB v77 fun r78 => if isK L c1 12 = true then (bnO (gn_LP_on c1 r78 a9 S L) fun p79 => adC p79.2.1 p79.2.2 (rfB p79.1.1 fun r81 => if isK p79.1.2.2 r81 13 = true then (bnO (gn_AL_iterator r81 p79.1.2.1 p79.1.2.2) fun p82 => adC p82.2.1 p82.2.2 (rfB p82.1.1 fun r84 => bnO (lo2_Law_changes_710 c1 a9 a10 st0 r84 FU (p82.1.2.1, p82.1.2.2)) fun p101 => adC p101.2.1 p101.2.2 (bnO (gfV p101.1.2 c1 12 6) fun v102 => rfB v102 fun r103 => if isK p101.1.2 c1 12 = true then (bnO (gn_LP_on c1 r103 a9 p101.1.1 p101.1.2) fun p104 => adC p104.2.1 p104.2.2 (rfB p104.1.1 fun r106 => if isK p104.1.2.2 r106 13 = true then (bnO (gn_AL_iterator r106 p104.1.2.1 p104.1.2.2) fun p107 => adC p107.2.1 p107.2.2 (rfB p107.1.1 fun r109 => bnO (lo2_Law_changes_769 c1 a9 a10 st0 r109 FU (p107.1.2.1, p107.1.2.2)) fun p126 => adC p126.2.1 p126.2.2 (bnO (fn_FP_clear 0 a9 p126.1.1) fun p127 => if p127.1 = 0 then (adC 1 6 (if st0 = 0 then (if p127.2.1 = (-4) then (if st0 = 0 then (some ((0, (p127.2.2, p126.1.2)), 0, 0)) else (some ((1, (p127.2.2, p126.1.2)), 0, 0))) else (some (((-1), (p127.2.2, p126.1.2)), 0, 0))) else (if p127.2.1 = a10 then (if st0 = 0 then (some ((0, (p127.2.2, p126.1.2)), 0, 0)) else (some ((1, (p127.2.2, p126.1.2)), 0, 0))) else (some (((-1), (p127.2.2, p126.1.2)), 0, 0))))) else none))) else none)) else none))) else none)) else none)
theorem tj2_Law_changes_688 {sc : SC} {c1 : Nat} {a9 : Int} (ha9 : inR a9) {a10 : Int} (ha10 : inR a10) {st0 : Int} (hst0 : inR st0) {S : St} {L : List PC} {q : (Int × LZ) × Nat × Nat} (h : jf2_Law_changes_688 c1 a9 a10 st0 S L = some q) {mc ms k n : Nat} (hb : Bd k n mc ms q) : GX sc M_Law_changes mc ms 688 [(0, .ref 0), (1, .ref c1), (9, V a9), (10, V a10)] [V st0] (wz (S, L)) k n (KXI q.1.1 q.1.2) := by
  unfold jf2_Law_changes_688 at h
  refine x_istore (pc := 688) (ls2 := [(11, V st0), (0, .ref 0), (1, .ref c1), (9, V a9), (10, V a10)]) (dK D_Law_changes_6 28 rfl) (ltK rfl) rfl ?_
  refine x_iload (pc := 690) (j := 0) (dK D_Law_changes_6 29 rfl) rfl ?_
  refine wx_if_eq (pc := 692) (t := 813) (dK D_Law_changes_6 30 rfl) rfl hst0 (fun hc133 => ?_) (fun hc133 => ?_)
  · replace h := ifP h hc133
    refine x_aloadn (pc := 813) (i0 := 0) (j := 1) (dK D_Law_changes_7 27 rfl) rfl rfl ?_
    refine x_iload (pc := 814) (j := 3) (dK D_Law_changes_7 28 rfl) rfl ?_
    refine bnE h ?_
    clear h
    intro p71 e_p71 h
    refine gdE h ?_
    clear h
    intro hz_p71 h
    obtain ⟨yp71, h9, e9⟩ := adE2 h
    clear h
    subst e9
    have h := h9
    clear h9
    have hk1 := bd1 hb
    have hn1 := bd2 hb
    replace hb := bdA hb
    refine x_callX (pc := 816) (As := [V a9]) (rest := []) (mc' := 1) (ms' := 6) (dK D_Law_changes_7 29 rfl) Q_Law_411 sx_FP_clear (fitK rfl) (isK_at (Z := (S, L)) (ci := 10) isK0) rfl (leK rfl) hk1 hn1 (clTI hz_p71 (fun E => tf_FP_clear (X := xz L) rfl xz_hc ha9 e_p71)) (kxI' (fun h_p71 => ?_))
    refine x_iload (pc := 819) (j := 0) (dK D_Law_changes_7 30 rfl) rfl ?_
    refine wx_if_eq (pc := 821) (t := 829) (dK D_Law_changes_7 31 rfl) rfl hst0 (fun hc76 => ?_) (fun hc76 => ?_)
    · replace h := ifP h hc76
      refine wx_bipush (pc := 829) (dK D_Law_changes_7 34 rfl) rfl ?_
      refine wx_icmp_eq (pc := 831) (t := 838) (dK D_Law_changes_7 35 rfl) rfl h_p71 (inRk rfl) (fun hc73 => ?_) (fun hc73 => ?_)
      · replace h := ifP h hc73
        refine x_iload (pc := 838) (j := 0) (dK D_Law_changes_7 38 rfl) rfl ?_
        refine wx_if_eq (pc := 840) (t := 847) (dK D_Law_changes_7 39 rfl) rfl hst0 (fun hc72 => ?_) (fun hc72 => ?_)
        · replace h := ifP h hc72
          refine wx_iconst (pc := 847) (dK D_Law_changes_7 42 rfl) ?_
          obtain rfl := Option.some.inj h
          exact wk_iretI (pc := 848) (dK D_Law_changes_7 43 rfl) rfl (bdk hb) (bdn hb) ⟨rfl, (inRk rfl), rfl⟩
        · replace h := ifN h hc72
          refine wx_iconst (pc := 843) (dK D_Law_changes_7 40 rfl) ?_
          refine x_goto (pc := 844) (tgt := 848) (dK D_Law_changes_7 41 rfl) rfl ?_
          obtain rfl := Option.some.inj h
          exact wk_iretI (pc := 848) (dK D_Law_changes_7 43 rfl) rfl (bdk hb) (bdn hb) ⟨rfl, (inRk rfl), rfl⟩
      · replace h := ifN h hc73
        refine wx_iconst (pc := 834) (dK D_Law_changes_7 36 rfl) ?_
        refine x_goto (pc := 835) (tgt := 848) (dK D_Law_changes_7 37 rfl) rfl ?_
        obtain rfl := Option.some.inj h
        exact wk_iretI (pc := 848) (dK D_Law_changes_7 43 rfl) rfl (bdk hb) (bdn hb) ⟨rfl, (inRk rfl), rfl⟩
    · replace h := ifN h hc76
      refine x_iload (pc := 824) (j := 4) (dK D_Law_changes_7 32 rfl) rfl ?_
      refine x_goto (pc := 826) (tgt := 831) (dK D_Law_changes_7 33 rfl) rfl ?_
      refine wx_icmp_eq (pc := 831) (t := 838) (dK D_Law_changes_7 35 rfl) rfl h_p71 ha10 (fun hc75 => ?_) (fun hc75 => ?_)
      · replace h := ifP h hc75
        refine x_iload (pc := 838) (j := 0) (dK D_Law_changes_7 38 rfl) rfl ?_
        refine wx_if_eq (pc := 840) (t := 847) (dK D_Law_changes_7 39 rfl) rfl hst0 (fun hc74 => ?_) (fun hc74 => ?_)
        · replace h := ifP h hc74
          refine wx_iconst (pc := 847) (dK D_Law_changes_7 42 rfl) ?_
          obtain rfl := Option.some.inj h
          exact wk_iretI (pc := 848) (dK D_Law_changes_7 43 rfl) rfl (bdk hb) (bdn hb) ⟨rfl, (inRk rfl), rfl⟩
        · replace h := ifN h hc74
          refine wx_iconst (pc := 843) (dK D_Law_changes_7 40 rfl) ?_
          refine x_goto (pc := 844) (tgt := 848) (dK D_Law_changes_7 41 rfl) rfl ?_
          obtain rfl := Option.some.inj h
          exact wk_iretI (pc := 848) (dK D_Law_changes_7 43 rfl) rfl (bdk hb) (bdn hb) ⟨rfl, (inRk rfl), rfl⟩
      · replace h := ifN h hc75
        refine wx_iconst (pc := 834) (dK D_Law_changes_7 36 rfl) ?_
        refine x_goto (pc := 835) (tgt := 848) (dK D_Law_changes_7 37 rfl) rfl ?_
        obtain rfl := Option.some.inj h
        exact wk_iretI (pc := 848) (dK D_Law_changes_7 43 rfl) rfl (bdk hb) (bdn hb) ⟨rfl, (inRk rfl), rfl⟩
  · replace h := ifN h hc133
    refine x_aloadn (pc := 695) (i0 := 1) (j := 2) (dK D_Law_changes_6 31 rfl) rfl rfl ?_
    refine x_aloadn (pc := 696) (i0 := 1) (j := 2) (dK D_Law_changes_6 32 rfl) rfl rfl ?_
    refine bnE h ?_
    clear h
    intro v77 e_v77 h
    refine wx_getV (pc := 697) (ci := 12) (f := 4) e_v77 (dK D_Law_changes_6 33 rfl) q_776 (ltK rfl) (ltK rfl) (fun hv77 => ?_)
    refine x_iload (pc := 700) (j := 3) (dK D_Law_changes_6 34 rfl) rfl ?_
    refine rfE h ?_
    clear h
    intro r78 e_r78 h
    rw [e_r78]
    refine gdE h ?_
    clear h
    intro hk80 h
    refine bnE h ?_
    clear h
    intro p79 e_p79 h
    obtain ⟨yp79, h9, e9⟩ := adE2 h
    clear h
    subst e9
    have h := h9
    clear h9
    have hk1 := bd1 hb
    have hn1 := bd2 hb
    replace hb := bdA hb
    refine x_callX (pc := 702) (As := [.ref r78, V a9]) (rest := []) (mc' := p79.2.1) (ms' := p79.2.2) (dK D_Law_changes_6 35 rfl) Q_Law_138 sx_LP_on (fitK rfl) (isK_at (Z := (S, L)) (ci := 12) hk80) rfl (leK rfl) hk1 hn1 (tg_LP_on ha9 e_p79) (kxR (fun h_p79 => ?_))
    refine rfE h ?_
    clear h
    intro r81 e_r81 h
    rw [e_r81]
    refine gdE h ?_
    clear h
    intro hk83 h
    refine bnE h ?_
    clear h
    intro p82 e_p82 h
    obtain ⟨yp82, h9, e9⟩ := adE2 h
    clear h
    subst e9
    have h := h9
    clear h9
    have hk1 := bd1 hb
    have hn1 := bd2 hb
    replace hb := bdA hb
    refine x_callX (pc := 705) (As := []) (rest := []) (mc' := p82.2.1) (ms' := p82.2.2) (dK D_Law_changes_6 36 rfl) Q_Law_179 sx_AL_iterator (fitK rfl) (isK_at (Z := (p79.1.2.1, p79.1.2.2)) (ci := 13) hk83) rfl (leK rfl) hk1 hn1 (tg_AL_iterator  e_p82) (kxR (fun h_p82 => ?_))
    refine x_astoreV (pc := 708) (ls2 := [(12, p82.1.1), (11, V st0), (0, .ref 0), (1, .ref c1), (9, V a9), (10, V a10)]) h_p82 (dK D_Law_changes_6 37 rfl) (ltK rfl) rfl ?_
    refine rfE h ?_
    clear h
    intro r84 e_r84 h
    rw [e_r84]
    refine bnE h ?_
    clear h
    intro p101 e_p101 h
    obtain ⟨yp101, h9, e9⟩ := adE2 h
    clear h
    subst e9
    have h := h9
    clear h9
    have hk1 := bd1 hb
    have hn1 := bd2 hb
    replace hb := bdA hb
    refine x_weak (ls' := [(0, .ref 0), (1, .ref c1), (9, V a9), (10, V a10), (11, V st0), (12, .ref r84)]) (sbc 2 rfl (sbc 3 rfl (sbc 4 rfl (sbc 5 rfl (sbc 1 rfl (sbc 0 rfl sbn)))))) ?_
    refine tl2_Law_changes_710 ha9 ha10 hst0 hk1 hn1 FU _ _ e_p101 _ _ ⟨Nat.le_refl _, Nat.le_refl _⟩  ?_
    refine x_aloadn (pc := 754) (i0 := 1) (j := 1) (dK D_Law_changes_7 4 rfl) rfl rfl ?_
    refine x_aloadn (pc := 755) (i0 := 1) (j := 1) (dK D_Law_changes_7 5 rfl) rfl rfl ?_
    refine bnE h ?_
    clear h
    intro v102 e_v102 h
    refine wx_getV (pc := 756) (ci := 12) (f := 6) e_v102 (dK D_Law_changes_7 6 rfl) q_780 (ltK rfl) (ltK rfl) (fun hv102 => ?_)
    refine x_iload (pc := 759) (j := 2) (dK D_Law_changes_7 7 rfl) rfl ?_
    refine rfE h ?_
    clear h
    intro r103 e_r103 h
    rw [e_r103]
    refine gdE h ?_
    clear h
    intro hk105 h
    refine bnE h ?_
    clear h
    intro p104 e_p104 h
    obtain ⟨yp104, h9, e9⟩ := adE2 h
    clear h
    subst e9
    have h := h9
    clear h9
    have hk1 := bd1 hb
    have hn1 := bd2 hb
    replace hb := bdA hb
    refine x_callX (pc := 761) (As := [.ref r103, V a9]) (rest := []) (mc' := p104.2.1) (ms' := p104.2.2) (dK D_Law_changes_7 8 rfl) Q_Law_138 sx_LP_on (fitK rfl) (isK_at (Z := (p101.1.1, p101.1.2)) (ci := 12) hk105) rfl (leK rfl) hk1 hn1 (tg_LP_on ha9 e_p104) (kxR (fun h_p104 => ?_))
    refine rfE h ?_
    clear h
    intro r106 e_r106 h
    rw [e_r106]
    refine gdE h ?_
    clear h
    intro hk108 h
    refine bnE h ?_
    clear h
    intro p107 e_p107 h
    obtain ⟨yp107, h9, e9⟩ := adE2 h
    clear h
    subst e9
    have h := h9
    clear h9
    have hk1 := bd1 hb
    have hn1 := bd2 hb
    replace hb := bdA hb
    refine x_callX (pc := 764) (As := []) (rest := []) (mc' := p107.2.1) (ms' := p107.2.2) (dK D_Law_changes_7 9 rfl) Q_Law_179 sx_AL_iterator (fitK rfl) (isK_at (Z := (p104.1.2.1, p104.1.2.2)) (ci := 13) hk108) rfl (leK rfl) hk1 hn1 (tg_AL_iterator  e_p107) (kxR (fun h_p107 => ?_))
    refine x_astoreV (pc := 767) (ls2 := [(12, p107.1.1), (0, .ref 0), (1, .ref c1), (9, V a9), (10, V a10), (11, V st0)]) h_p107 (dK D_Law_changes_7 10 rfl) (ltK rfl) rfl ?_
    refine rfE h ?_
    clear h
    intro r109 e_r109 h
    rw [e_r109]
    refine bnE h ?_
    clear h
    intro p126 e_p126 h
    obtain ⟨yp126, h9, e9⟩ := adE2 h
    clear h
    subst e9
    have h := h9
    clear h9
    have hk1 := bd1 hb
    have hn1 := bd2 hb
    replace hb := bdA hb
    refine x_weak (ls' := [(0, .ref 0), (1, .ref c1), (9, V a9), (10, V a10), (11, V st0), (12, .ref r109)]) (sbc 1 rfl (sbc 2 rfl (sbc 3 rfl (sbc 4 rfl (sbc 5 rfl (sbc 0 rfl sbn)))))) ?_
    refine tl2_Law_changes_769 ha9 ha10 hst0 hk1 hn1 FU _ _ e_p126 _ _ ⟨Nat.le_refl _, Nat.le_refl _⟩  ?_
    refine x_aloadn (pc := 813) (i0 := 0) (j := 0) (dK D_Law_changes_7 27 rfl) rfl rfl ?_
    refine x_iload (pc := 814) (j := 1) (dK D_Law_changes_7 28 rfl) rfl ?_
    refine bnE h ?_
    clear h
    intro p127 e_p127 h
    refine gdE h ?_
    clear h
    intro hz_p127 h
    obtain ⟨yp127, h9, e9⟩ := adE2 h
    clear h
    subst e9
    have h := h9
    clear h9
    have hk1 := bd1 hb
    have hn1 := bd2 hb
    replace hb := bdA hb
    refine x_callX (pc := 816) (As := [V a9]) (rest := []) (mc' := 1) (ms' := 6) (dK D_Law_changes_7 29 rfl) Q_Law_411 sx_FP_clear (fitK rfl) (isK_at (Z := (p126.1.1, p126.1.2)) (ci := 10) isK0) rfl (leK rfl) hk1 hn1 (clTI hz_p127 (fun E => tf_FP_clear (X := xz p126.1.2) rfl xz_hc ha9 e_p127)) (kxI' (fun h_p127 => ?_))
    refine x_iload (pc := 819) (j := 3) (dK D_Law_changes_7 30 rfl) rfl ?_
    refine wx_if_eq (pc := 821) (t := 829) (dK D_Law_changes_7 31 rfl) rfl hst0 (fun hc132 => ?_) (fun hc132 => ?_)
    · replace h := ifP h hc132
      refine wx_bipush (pc := 829) (dK D_Law_changes_7 34 rfl) rfl ?_
      refine wx_icmp_eq (pc := 831) (t := 838) (dK D_Law_changes_7 35 rfl) rfl h_p127 (inRk rfl) (fun hc129 => ?_) (fun hc129 => ?_)
      · replace h := ifP h hc129
        refine x_iload (pc := 838) (j := 3) (dK D_Law_changes_7 38 rfl) rfl ?_
        refine wx_if_eq (pc := 840) (t := 847) (dK D_Law_changes_7 39 rfl) rfl hst0 (fun hc128 => ?_) (fun hc128 => ?_)
        · replace h := ifP h hc128
          refine wx_iconst (pc := 847) (dK D_Law_changes_7 42 rfl) ?_
          obtain rfl := Option.some.inj h
          exact wk_iretI (pc := 848) (dK D_Law_changes_7 43 rfl) rfl (bdk hb) (bdn hb) ⟨rfl, (inRk rfl), rfl⟩
        · replace h := ifN h hc128
          refine wx_iconst (pc := 843) (dK D_Law_changes_7 40 rfl) ?_
          refine x_goto (pc := 844) (tgt := 848) (dK D_Law_changes_7 41 rfl) rfl ?_
          obtain rfl := Option.some.inj h
          exact wk_iretI (pc := 848) (dK D_Law_changes_7 43 rfl) rfl (bdk hb) (bdn hb) ⟨rfl, (inRk rfl), rfl⟩
      · replace h := ifN h hc129
        refine wx_iconst (pc := 834) (dK D_Law_changes_7 36 rfl) ?_
        refine x_goto (pc := 835) (tgt := 848) (dK D_Law_changes_7 37 rfl) rfl ?_
        obtain rfl := Option.some.inj h
        exact wk_iretI (pc := 848) (dK D_Law_changes_7 43 rfl) rfl (bdk hb) (bdn hb) ⟨rfl, (inRk rfl), rfl⟩
    · replace h := ifN h hc132
      refine x_iload (pc := 824) (j := 2) (dK D_Law_changes_7 32 rfl) rfl ?_
      refine x_goto (pc := 826) (tgt := 831) (dK D_Law_changes_7 33 rfl) rfl ?_
      refine wx_icmp_eq (pc := 831) (t := 838) (dK D_Law_changes_7 35 rfl) rfl h_p127 ha10 (fun hc131 => ?_) (fun hc131 => ?_)
      · replace h := ifP h hc131
        refine x_iload (pc := 838) (j := 3) (dK D_Law_changes_7 38 rfl) rfl ?_
        refine wx_if_eq (pc := 840) (t := 847) (dK D_Law_changes_7 39 rfl) rfl hst0 (fun hc130 => ?_) (fun hc130 => ?_)
        · replace h := ifP h hc130
          refine wx_iconst (pc := 847) (dK D_Law_changes_7 42 rfl) ?_
          obtain rfl := Option.some.inj h
          exact wk_iretI (pc := 848) (dK D_Law_changes_7 43 rfl) rfl (bdk hb) (bdn hb) ⟨rfl, (inRk rfl), rfl⟩
        · replace h := ifN h hc130
          refine wx_iconst (pc := 843) (dK D_Law_changes_7 40 rfl) ?_
          refine x_goto (pc := 844) (tgt := 848) (dK D_Law_changes_7 41 rfl) rfl ?_
          obtain rfl := Option.some.inj h
          exact wk_iretI (pc := 848) (dK D_Law_changes_7 43 rfl) rfl (bdk hb) (bdn hb) ⟨rfl, (inRk rfl), rfl⟩
      · replace h := ifN h hc131
        refine wx_iconst (pc := 834) (dK D_Law_changes_7 36 rfl) ?_
        refine x_goto (pc := 835) (tgt := 848) (dK D_Law_changes_7 37 rfl) rfl ?_
        obtain rfl := Option.some.inj h
        exact wk_iretI (pc := 848) (dK D_Law_changes_7 43 rfl) rfl (bdk hb) (bdn hb) ⟨rfl, (inRk rfl), rfl⟩
def jf2_Law_changes_626 (c1 : Nat) (a2 : Int) (a3 : Int) (a4 : Int) (a5 : Int) (a6 : Int) (c7 : Value) (a8 : Int) (S : St) (L : List PC) : Option ((Int × LZ) × Nat × Nat) := if a2 = 9 then (bnO (gfV L c1 12 4) fun v56 => rfB v56 fun r57 => if isK L c1 12 = true then (bnO (gn_LP_on c1 r57 (i_max 1 a5) S L) fun p58 => adC p58.2.1 p58.2.2 (rfB p58.1.1 fun r60 => if isK p58.1.2.2 r60 13 = true then (bnO (gn_AL_size r60 p58.1.2.1 p58.1.2.2) fun p61 => bnO (gfV p58.1.2.2 c1 12 6) fun v63 => rfB v63 fun r64 => if isK p58.1.2.2 c1 12 = true then (bnO (gn_LP_on c1 r64 (i_max 1 a5) p58.1.2.1 p58.1.2.2) fun p65 => adC p65.2.1 p65.2.2 (rfB p65.1.1 fun r67 => if isK p65.1.2.2 r67 13 = true then (bnO (gn_AL_size r67 p65.1.2.1 p65.1.2.2) fun p68 => nm (wr (p61 + p68)) fun v70 => if v70 ≤ 0 then (jf2_Law_changes_688 c1 (i_max 1 a5) v70 0 p65.1.2.1 p65.1.2.2) else (if isK p65.1.2.2 c1 12 = true then (bnO (gn_LP_isShut c1 (i_max 1 a5) p65.1.2.1 p65.1.2.2) fun p134 => if p134 = true then (jf2_Law_changes_688 c1 (i_max 1 a5) v70 0 p65.1.2.1 p65.1.2.2) else (jf2_Law_changes_688 c1 (i_max 1 a5) v70 1 p65.1.2.1 p65.1.2.2)) else none)) else none)) else none) else none)) else none) else (if a2 = 10 then (if isK L c1 12 = true then (bnO (gn_LP_pages c1 S L) fun p40 => if 0 < p40 then (nm (wr (1 + (a3.tmod p40))) fun v43 => if isK L c1 12 = true then (bnO (gn_LP_exchangeReason c1 (i_max 1 a5) v43 S L) fun p44 => adC p44.2.1 p44.2.2 (if p44.1.1 = 0 then (if isK p44.1.2.2 c1 12 = true then (bnO (gn_LP_swap c1 (i_max 1 a5) v43 p44.1.2.1 p44.1.2.2) fun p49 => adC p49.2.1 p49.2.2 (bnO (fn_FP_exchange 0 (i_max 1 a5) v43 p49.1.1) fun p51 => if p51.1 = 0 then (adC 2 12 (if p51.2.1 = p44.1.1 then (if p44.1.1 = 0 then (some ((1, (p51.2.2, p49.1.2)), 0, 0)) else (some ((0, (p51.2.2, p49.1.2)), 0, 0))) else (some (((-1), (p51.2.2, p49.1.2)), 0, 0)))) else none)) else none) else (bnO (fn_FP_exchange 0 (i_max 1 a5) v43 p44.1.2.1) fun p46 => if p46.1 = 0 then (adC 2 12 (if p46.2.1 = p44.1.1 then (if p44.1.1 = 0 then (some ((1, (p46.2.2, p44.1.2.2)), 0, 0)) else (some ((0, (p46.2.2, p44.1.2.2)), 0, 0))) else (some (((-1), (p46.2.2, p44.1.2.2)), 0, 0)))) else none))) else none) else none) else none) else (bnO (gn_Law_others c1 a2 a3 a4 a6 c7 a8 S L) fun p39 => adC p39.2.1 p39.2.2 (some ((p39.1.1, (p39.1.2.1, p39.1.2.2)), 0, 0))))
theorem tj2_Law_changes_626 {sc : SC} {c1 : Nat} {a2 : Int} (ha2 : inR a2) {a3 : Int} (ha3 : inR a3) {a4 : Int} (ha4 : inR a4) {a5 : Int} (ha5 : inR a5) {a6 : Int} (ha6 : inR a6) {c7 : Value} (hc7 : c7 = .null ∨ ∃ b, c7 = .ref b) {a8 : Int} (ha8 : inR a8) {S : St} {L : List PC} {q : (Int × LZ) × Nat × Nat} (h : jf2_Law_changes_626 c1 a2 a3 a4 a5 a6 c7 a8 S L = some q) {mc ms k n : Nat} (hb : Bd k n mc ms q) : GX sc M_Law_changes mc ms 626 [(0, .ref 0), (1, .ref c1), (2, V a2), (3, V a3), (4, V a4), (5, V a5), (6, V a6), (7, c7), (8, V a8)] [] (wz (S, L)) k n (KXI q.1.1 q.1.2) := by
  unfold jf2_Law_changes_626 at h
  refine x_iloadn (pc := 626) (i0 := 2) (j := 2) (dK D_Law_changes_5 48 rfl) rfl rfl ?_
  refine wx_bipush (pc := 627) (dK D_Law_changes_5 49 rfl) rfl ?_
  refine wx_icmp_ne (pc := 629) (t := 849) (dK D_Law_changes_6 0 rfl) rfl ha2 (inRk rfl) (fun hc138 => ?_) (fun hc138 => ?_)
  · replace h := ifN h hc138
    refine x_iloadn (pc := 849) (i0 := 2) (j := 2) (dK D_Law_changes_7 44 rfl) rfl rfl ?_
    refine wx_bipush (pc := 850) (dK D_Law_changes_7 45 rfl) rfl ?_
    refine wx_icmp_ne (pc := 852) (t := 924) (dK D_Law_changes_7 46 rfl) rfl ha2 (inRk rfl) (fun hc55 => ?_) (fun hc55 => ?_)
    · replace h := ifN h hc55
      refine x_aloadn (pc := 924) (i0 := 0) (j := 0) (dK D_Law_changes_8 33 rfl) rfl rfl ?_
      refine x_aloadn (pc := 925) (i0 := 1) (j := 1) (dK D_Law_changes_8 34 rfl) rfl rfl ?_
      refine x_iloadn (pc := 926) (i0 := 2) (j := 2) (dK D_Law_changes_8 35 rfl) rfl rfl ?_
      refine x_iloadn (pc := 927) (i0 := 3) (j := 3) (dK D_Law_changes_8 36 rfl) rfl rfl ?_
      refine x_iload (pc := 928) (j := 4) (dK D_Law_changes_8 37 rfl) rfl ?_
      refine x_iload (pc := 930) (j := 6) (dK D_Law_changes_8 38 rfl) rfl ?_
      refine x_aloadV (pc := 932) (j := 7) hc7 (dK D_Law_changes_8 39 rfl) rfl ?_
      refine x_iload (pc := 934) (j := 8) (dK D_Law_changes_8 40 rfl) rfl ?_
      refine bnE h ?_
      clear h
      intro p39 e_p39 h
      obtain ⟨yp39, h9, e9⟩ := adE2 h
      clear h
      subst e9
      have h := h9
      clear h9
      have hk1 := bd1 hb
      have hn1 := bd2 hb
      replace hb := bdA hb
      refine x_callS (pc := 936) (As := [.ref 0, .ref c1, V a2, V a3, V a4, V a6, c7, V a8]) (rest := []) (mc' := p39.2.1) (ms' := p39.2.2) (dK D_Law_changes_8 41 rfl) Q_Law_417 (fitK rfl) rfl (leK rfl) hk1 hn1 (tg_Law_others ha2 ha3 ha4 ha6 hc7 ha8 e_p39) (kxI' (fun h_p39 => ?_))
      obtain rfl := Option.some.inj h
      exact wk_iretI (pc := 939) (dK D_Law_changes_8 42 rfl) rfl (bdk hb) (bdn hb) ⟨rfl, h_p39, rfl⟩
    · replace h := ifP h hc55
      refine wx_iconst (pc := 855) (dK D_Law_changes_7 47 rfl) ?_
      refine x_iload (pc := 856) (j := 5) (dK D_Law_changes_7 48 rfl) rfl ?_
      refine wx_mmax (pc := 858) (dK D_Law_changes_7 49 rfl) q_1594 (leK rfl) (leK rfl) (bdk hb) (bdn hb) (inRk rfl) ha5 ?_
      refine x_istore (pc := 861) (ls2 := [(9, V (i_max 1 a5)), (0, .ref 0), (1, .ref c1), (2, V a2), (3, V a3), (4, V a4), (5, V a5), (6, V a6), (7, c7), (8, V a8)]) (dK D_Law_changes_8 0 rfl) (ltK rfl) rfl ?_
      refine wx_iconst (pc := 863) (dK D_Law_changes_8 1 rfl) ?_
      refine x_iloadn (pc := 864) (i0 := 3) (j := 4) (dK D_Law_changes_8 2 rfl) rfl rfl ?_
      refine x_aloadn (pc := 865) (i0 := 1) (j := 2) (dK D_Law_changes_8 3 rfl) rfl rfl ?_
      refine gdE h ?_
      clear h
      intro hk41 h
      refine bnE h ?_
      clear h
      intro p40 e_p40 h
      refine x_callX (pc := 866) (As := []) (rest := [V a3, V 1]) (mc' := 0) (ms' := 0) (dK D_Law_changes_8 4 rfl) Q_Law_42 sx_LP_pages (fitK rfl) (isK_at (Z := (S, L)) (ci := 12) hk41) rfl (leK rfl) (bdk hb) (bdn hb) (tg_LP_pages  e_p40) (kxI' (fun h_p40 => ?_))
      refine gdE h ?_
      clear h
      intro hp42 h
      refine wx_irem (pc := 869) (dK D_Law_changes_8 5 rfl) ha3 h_p40 hp42 ?_
      refine wx_iadd (pc := 870) (dK D_Law_changes_8 6 rfl) ?_
      refine nmE h ?_
      clear h
      intro v43 e_v43 h
      refine wtop e_v43 ?_
      refine x_istore (pc := 871) (ls2 := [(10, V v43), (9, V (i_max 1 a5)), (0, .ref 0), (1, .ref c1), (2, V a2), (3, V a3), (4, V a4), (5, V a5), (6, V a6), (7, c7), (8, V a8)]) (dK D_Law_changes_8 7 rfl) (ltK rfl) rfl ?_
      refine x_aloadn (pc := 873) (i0 := 1) (j := 3) (dK D_Law_changes_8 8 rfl) rfl rfl ?_
      refine x_iload (pc := 874) (j := 1) (dK D_Law_changes_8 9 rfl) rfl ?_
      refine x_iload (pc := 876) (j := 0) (dK D_Law_changes_8 10 rfl) rfl ?_
      refine gdE h ?_
      clear h
      intro hk45 h
      refine bnE h ?_
      clear h
      intro p44 e_p44 h
      obtain ⟨yp44, h9, e9⟩ := adE2 h
      clear h
      subst e9
      have h := h9
      clear h9
      have hk1 := bd1 hb
      have hn1 := bd2 hb
      replace hb := bdA hb
      refine x_callX (pc := 878) (As := [V (i_max 1 a5), V v43]) (rest := []) (mc' := p44.2.1) (ms' := p44.2.2) (dK D_Law_changes_8 11 rfl) Q_Law_352 sx_LP_exchangeReason (fitK rfl) (isK_at (Z := (S, L)) (ci := 12) hk45) rfl (leK rfl) hk1 hn1 (tg_LP_exchangeReason (i_max_in (inRk rfl) ha5) (Vn_in e_v43) e_p44) (kxI' (fun h_p44 => ?_))
      refine x_istore (pc := 881) (ls2 := [(11, V p44.1.1), (10, V v43), (9, V (i_max 1 a5)), (0, .ref 0), (1, .ref c1), (2, V a2), (3, V a3), (4, V a4), (5, V a5), (6, V a6), (7, c7), (8, V a8)]) (dK D_Law_changes_8 12 rfl) (ltK rfl) rfl ?_
      refine x_iload (pc := 883) (j := 0) (dK D_Law_changes_8 13 rfl) rfl ?_
      refine wx_if_ne (pc := 885) (t := 896) (dK D_Law_changes_8 14 rfl) rfl h_p44 (fun hc54 => ?_) (fun hc54 => ?_)
      · replace h := ifN h hc54
        refine x_aloadn (pc := 896) (i0 := 0) (j := 3) (dK D_Law_changes_8 19 rfl) rfl rfl ?_
        refine x_iload (pc := 897) (j := 2) (dK D_Law_changes_8 20 rfl) rfl ?_
        refine x_iload (pc := 899) (j := 1) (dK D_Law_changes_8 21 rfl) rfl ?_
        refine bnE h ?_
        clear h
        intro p46 e_p46 h
        refine gdE h ?_
        clear h
        intro hz_p46 h
        obtain ⟨yp46, h9, e9⟩ := adE2 h
        clear h
        subst e9
        have h := h9
        clear h9
        have hk1 := bd1 hb
        have hn1 := bd2 hb
        replace hb := bdA hb
        refine x_callX (pc := 901) (As := [V (i_max 1 a5), V v43]) (rest := []) (mc' := 2) (ms' := 12) (dK D_Law_changes_8 22 rfl) Q_Law_414 sx_FP_exchange (fitK rfl) (isK_at (Z := (p44.1.2.1, p44.1.2.2)) (ci := 10) isK0) rfl (leK rfl) hk1 hn1 (clTI hz_p46 (fun E => tf_FP_exchange (X := xz p44.1.2.2) rfl xz_hc (i_max_in (inRk rfl) ha5) (Vn_in e_v43) e_p46)) (kxI' (fun h_p46 => ?_))
        refine x_iload (pc := 904) (j := 0) (dK D_Law_changes_8 23 rfl) rfl ?_
        refine wx_icmp_eq (pc := 906) (t := 913) (dK D_Law_changes_8 24 rfl) rfl h_p46 h_p44 (fun hc48 => ?_) (fun hc48 => ?_)
        · replace h := ifP h hc48
          refine x_iload (pc := 913) (j := 0) (dK D_Law_changes_8 27 rfl) rfl ?_
          refine wx_if_ne (pc := 915) (t := 922) (dK D_Law_changes_8 28 rfl) rfl h_p44 (fun hc47 => ?_) (fun hc47 => ?_)
          · replace h := ifN h hc47
            refine wx_iconst (pc := 922) (dK D_Law_changes_8 31 rfl) ?_
            obtain rfl := Option.some.inj h
            exact wk_iretI (pc := 923) (dK D_Law_changes_8 32 rfl) rfl (bdk hb) (bdn hb) ⟨rfl, (inRk rfl), rfl⟩
          · replace h := ifP h hc47
            refine wx_iconst (pc := 918) (dK D_Law_changes_8 29 rfl) ?_
            refine x_goto (pc := 919) (tgt := 923) (dK D_Law_changes_8 30 rfl) rfl ?_
            obtain rfl := Option.some.inj h
            exact wk_iretI (pc := 923) (dK D_Law_changes_8 32 rfl) rfl (bdk hb) (bdn hb) ⟨rfl, (inRk rfl), rfl⟩
        · replace h := ifN h hc48
          refine wx_iconst (pc := 909) (dK D_Law_changes_8 25 rfl) ?_
          refine x_goto (pc := 910) (tgt := 923) (dK D_Law_changes_8 26 rfl) rfl ?_
          obtain rfl := Option.some.inj h
          exact wk_iretI (pc := 923) (dK D_Law_changes_8 32 rfl) rfl (bdk hb) (bdn hb) ⟨rfl, (inRk rfl), rfl⟩
      · replace h := ifP h hc54
        refine x_aloadn (pc := 888) (i0 := 1) (j := 4) (dK D_Law_changes_8 15 rfl) rfl rfl ?_
        refine x_iload (pc := 889) (j := 2) (dK D_Law_changes_8 16 rfl) rfl ?_
        refine x_iload (pc := 891) (j := 1) (dK D_Law_changes_8 17 rfl) rfl ?_
        refine gdE h ?_
        clear h
        intro hk50 h
        refine bnE h ?_
        clear h
        intro p49 e_p49 h
        obtain ⟨yp49, h9, e9⟩ := adE2 h
        clear h
        subst e9
        have h := h9
        clear h9
        have hk1 := bd1 hb
        have hn1 := bd2 hb
        replace hb := bdA hb
        refine x_callX (pc := 893) (As := [V (i_max 1 a5), V v43]) (rest := []) (mc' := p49.2.1) (ms' := p49.2.2) (dK D_Law_changes_8 18 rfl) Q_Law_355 sx_LP_swap (fitK rfl) (isK_at (Z := (p44.1.2.1, p44.1.2.2)) (ci := 12) hk50) rfl (leK rfl) hk1 hn1 (tg_LP_swap (i_max_in (inRk rfl) ha5) (Vn_in e_v43) e_p49) (kxU ?_)
        refine x_aloadn (pc := 896) (i0 := 0) (j := 3) (dK D_Law_changes_8 19 rfl) rfl rfl ?_
        refine x_iload (pc := 897) (j := 2) (dK D_Law_changes_8 20 rfl) rfl ?_
        refine x_iload (pc := 899) (j := 1) (dK D_Law_changes_8 21 rfl) rfl ?_
        refine bnE h ?_
        clear h
        intro p51 e_p51 h
        refine gdE h ?_
        clear h
        intro hz_p51 h
        obtain ⟨yp51, h9, e9⟩ := adE2 h
        clear h
        subst e9
        have h := h9
        clear h9
        have hk1 := bd1 hb
        have hn1 := bd2 hb
        replace hb := bdA hb
        refine x_callX (pc := 901) (As := [V (i_max 1 a5), V v43]) (rest := []) (mc' := 2) (ms' := 12) (dK D_Law_changes_8 22 rfl) Q_Law_414 sx_FP_exchange (fitK rfl) (isK_at (Z := (p49.1.1, p49.1.2)) (ci := 10) isK0) rfl (leK rfl) hk1 hn1 (clTI hz_p51 (fun E => tf_FP_exchange (X := xz p49.1.2) rfl xz_hc (i_max_in (inRk rfl) ha5) (Vn_in e_v43) e_p51)) (kxI' (fun h_p51 => ?_))
        refine x_iload (pc := 904) (j := 0) (dK D_Law_changes_8 23 rfl) rfl ?_
        refine wx_icmp_eq (pc := 906) (t := 913) (dK D_Law_changes_8 24 rfl) rfl h_p51 h_p44 (fun hc53 => ?_) (fun hc53 => ?_)
        · replace h := ifP h hc53
          refine x_iload (pc := 913) (j := 0) (dK D_Law_changes_8 27 rfl) rfl ?_
          refine wx_if_ne (pc := 915) (t := 922) (dK D_Law_changes_8 28 rfl) rfl h_p44 (fun hc52 => ?_) (fun hc52 => ?_)
          · replace h := ifN h hc52
            refine wx_iconst (pc := 922) (dK D_Law_changes_8 31 rfl) ?_
            obtain rfl := Option.some.inj h
            exact wk_iretI (pc := 923) (dK D_Law_changes_8 32 rfl) rfl (bdk hb) (bdn hb) ⟨rfl, (inRk rfl), rfl⟩
          · replace h := ifP h hc52
            refine wx_iconst (pc := 918) (dK D_Law_changes_8 29 rfl) ?_
            refine x_goto (pc := 919) (tgt := 923) (dK D_Law_changes_8 30 rfl) rfl ?_
            obtain rfl := Option.some.inj h
            exact wk_iretI (pc := 923) (dK D_Law_changes_8 32 rfl) rfl (bdk hb) (bdn hb) ⟨rfl, (inRk rfl), rfl⟩
        · replace h := ifN h hc53
          refine wx_iconst (pc := 909) (dK D_Law_changes_8 25 rfl) ?_
          refine x_goto (pc := 910) (tgt := 923) (dK D_Law_changes_8 26 rfl) rfl ?_
          obtain rfl := Option.some.inj h
          exact wk_iretI (pc := 923) (dK D_Law_changes_8 32 rfl) rfl (bdk hb) (bdn hb) ⟨rfl, (inRk rfl), rfl⟩
  · replace h := ifP h hc138
    refine wx_iconst (pc := 632) (dK D_Law_changes_6 1 rfl) ?_
    refine x_iload (pc := 633) (j := 5) (dK D_Law_changes_6 2 rfl) rfl ?_
    refine wx_mmax (pc := 635) (dK D_Law_changes_6 3 rfl) q_1594 (leK rfl) (leK rfl) (bdk hb) (bdn hb) (inRk rfl) ha5 ?_
    refine x_istore (pc := 638) (ls2 := [(9, V (i_max 1 a5)), (0, .ref 0), (1, .ref c1), (2, V a2), (3, V a3), (4, V a4), (5, V a5), (6, V a6), (7, c7), (8, V a8)]) (dK D_Law_changes_6 4 rfl) (ltK rfl) rfl ?_
    refine x_aloadn (pc := 640) (i0 := 1) (j := 2) (dK D_Law_changes_6 5 rfl) rfl rfl ?_
    refine x_aloadn (pc := 641) (i0 := 1) (j := 2) (dK D_Law_changes_6 6 rfl) rfl rfl ?_
    refine bnE h ?_
    clear h
    intro v56 e_v56 h
    refine wx_getV (pc := 642) (ci := 12) (f := 4) e_v56 (dK D_Law_changes_6 7 rfl) q_776 (ltK rfl) (ltK rfl) (fun hv56 => ?_)
    refine x_iload (pc := 645) (j := 0) (dK D_Law_changes_6 8 rfl) rfl ?_
    refine rfE h ?_
    clear h
    intro r57 e_r57 h
    rw [e_r57]
    refine gdE h ?_
    clear h
    intro hk59 h
    refine bnE h ?_
    clear h
    intro p58 e_p58 h
    obtain ⟨yp58, h9, e9⟩ := adE2 h
    clear h
    subst e9
    have h := h9
    clear h9
    have hk1 := bd1 hb
    have hn1 := bd2 hb
    replace hb := bdA hb
    refine x_callX (pc := 647) (As := [.ref r57, V (i_max 1 a5)]) (rest := []) (mc' := p58.2.1) (ms' := p58.2.2) (dK D_Law_changes_6 9 rfl) Q_Law_138 sx_LP_on (fitK rfl) (isK_at (Z := (S, L)) (ci := 12) hk59) rfl (leK rfl) hk1 hn1 (tg_LP_on (i_max_in (inRk rfl) ha5) e_p58) (kxR (fun h_p58 => ?_))
    refine rfE h ?_
    clear h
    intro r60 e_r60 h
    rw [e_r60]
    refine gdE h ?_
    clear h
    intro hk62 h
    refine bnE h ?_
    clear h
    intro p61 e_p61 h
    refine x_callX (pc := 650) (As := []) (rest := []) (mc' := 0) (ms' := 0) (dK D_Law_changes_6 10 rfl) Q_Law_55 sx_AL_size (fitK rfl) (isK_at (Z := (p58.1.2.1, p58.1.2.2)) (ci := 13) hk62) rfl (leK rfl) (bdk hb) (bdn hb) (tg_AL_size  e_p61) (kxI' (fun h_p61 => ?_))
    refine x_aloadn (pc := 653) (i0 := 1) (j := 2) (dK D_Law_changes_6 11 rfl) rfl rfl ?_
    refine x_aloadn (pc := 654) (i0 := 1) (j := 2) (dK D_Law_changes_6 12 rfl) rfl rfl ?_
    refine bnE h ?_
    clear h
    intro v63 e_v63 h
    refine wx_getV (pc := 655) (ci := 12) (f := 6) e_v63 (dK D_Law_changes_6 13 rfl) q_780 (ltK rfl) (ltK rfl) (fun hv63 => ?_)
    refine x_iload (pc := 658) (j := 0) (dK D_Law_changes_6 14 rfl) rfl ?_
    refine rfE h ?_
    clear h
    intro r64 e_r64 h
    rw [e_r64]
    refine gdE h ?_
    clear h
    intro hk66 h
    refine bnE h ?_
    clear h
    intro p65 e_p65 h
    obtain ⟨yp65, h9, e9⟩ := adE2 h
    clear h
    subst e9
    have h := h9
    clear h9
    have hk1 := bd1 hb
    have hn1 := bd2 hb
    replace hb := bdA hb
    refine x_callX (pc := 660) (As := [.ref r64, V (i_max 1 a5)]) (rest := [V p61]) (mc' := p65.2.1) (ms' := p65.2.2) (dK D_Law_changes_6 15 rfl) Q_Law_138 sx_LP_on (fitK rfl) (isK_at (Z := (p58.1.2.1, p58.1.2.2)) (ci := 12) hk66) rfl (leK rfl) hk1 hn1 (tg_LP_on (i_max_in (inRk rfl) ha5) e_p65) (kxR (fun h_p65 => ?_))
    refine rfE h ?_
    clear h
    intro r67 e_r67 h
    rw [e_r67]
    refine gdE h ?_
    clear h
    intro hk69 h
    refine bnE h ?_
    clear h
    intro p68 e_p68 h
    refine x_callX (pc := 663) (As := []) (rest := [V p61]) (mc' := 0) (ms' := 0) (dK D_Law_changes_6 16 rfl) Q_Law_55 sx_AL_size (fitK rfl) (isK_at (Z := (p65.1.2.1, p65.1.2.2)) (ci := 13) hk69) rfl (leK rfl) (bdk hb) (bdn hb) (tg_AL_size  e_p68) (kxI' (fun h_p68 => ?_))
    refine wx_iadd (pc := 666) (dK D_Law_changes_6 17 rfl) ?_
    refine nmE h ?_
    clear h
    intro v70 e_v70 h
    refine wtop e_v70 ?_
    refine x_istore (pc := 667) (ls2 := [(10, V v70), (9, V (i_max 1 a5)), (0, .ref 0), (1, .ref c1), (2, V a2), (3, V a3), (4, V a4), (5, V a5), (6, V a6), (7, c7), (8, V a8)]) (dK D_Law_changes_6 18 rfl) (ltK rfl) rfl ?_
    refine x_iload (pc := 669) (j := 0) (dK D_Law_changes_6 19 rfl) rfl ?_
    refine wx_if_le (pc := 671) (t := 687) (dK D_Law_changes_6 20 rfl) rfl (Vn_in e_v70) (fun hc137 => ?_) (fun hc137 => ?_)
    · replace h := ifP h hc137
      refine wx_iconst (pc := 687) (dK D_Law_changes_6 27 rfl) ?_
      refine x_weak (ls' := [(0, .ref 0), (1, .ref c1), (9, V (i_max 1 a5)), (10, V v70)]) (sbc 2 rfl (sbc 3 rfl (sbc 1 rfl (sbc 0 rfl sbn)))) ?_
      exact tj2_Law_changes_688 (i_max_in (inRk rfl) ha5) (Vn_in e_v70) (inRk rfl) h hb
    · replace h := ifN h hc137
      refine x_aloadn (pc := 674) (i0 := 1) (j := 3) (dK D_Law_changes_6 21 rfl) rfl rfl ?_
      refine x_iload (pc := 675) (j := 1) (dK D_Law_changes_6 22 rfl) rfl ?_
      refine gdE h ?_
      clear h
      intro hk135 h
      refine bnE h ?_
      clear h
      intro p134 e_p134 h
      refine x_callX (pc := 677) (As := [V (i_max 1 a5)]) (rest := []) (mc' := 0) (ms' := 0) (dK D_Law_changes_6 23 rfl) Q_Law_325 sx_LP_isShut (fitK rfl) (isK_at (Z := (p65.1.2.1, p65.1.2.2)) (ci := 12) hk135) rfl (leK rfl) (bdk hb) (bdn hb) (tg_LP_isShut (i_max_in (inRk rfl) ha5) e_p134) (kxB' ?_)
      refine wx_ifB_ne (pc := 680) (b := p134) (t := 687) (dK D_Law_changes_6 24 rfl) rfl (fun hc136 => ?_) (fun hc136 => ?_)
      · replace h := ifP h hc136
        refine wx_iconst (pc := 687) (dK D_Law_changes_6 27 rfl) ?_
        refine x_weak (ls' := [(0, .ref 0), (1, .ref c1), (9, V (i_max 1 a5)), (10, V v70)]) (sbc 2 rfl (sbc 3 rfl (sbc 1 rfl (sbc 0 rfl sbn)))) ?_
        exact tj2_Law_changes_688 (i_max_in (inRk rfl) ha5) (Vn_in e_v70) (inRk rfl) h hb
      · replace h := ifN h hc136
        refine wx_iconst (pc := 683) (dK D_Law_changes_6 25 rfl) ?_
        refine x_goto (pc := 684) (tgt := 688) (dK D_Law_changes_6 26 rfl) rfl ?_
        refine x_weak (ls' := [(0, .ref 0), (1, .ref c1), (9, V (i_max 1 a5)), (10, V v70)]) (sbc 2 rfl (sbc 3 rfl (sbc 1 rfl (sbc 0 rfl sbn)))) ?_
        exact tj2_Law_changes_688 (i_max_in (inRk rfl) ha5) (Vn_in e_v70) (inRk rfl) h hb
def jf2_Law_changes_579 (a5 : Int) (a9 : Int) (c10 : Nat) (a11 : Int) (st0 : Int) (S : St) (L : List PC) : Option ((Int × LZ) × Nat × Nat) := if st0 = 0 then (bnO (pf L c10 11 5 (V a5)) fun L165 => bnO (fn_FP_use 0 a9 a5 S) fun p166 => if p166.1 = 0 then (adC 1 6 (if p166.2.1 = st0 then (if st0 = 0 then (some ((1, (p166.2.2, L165)), 0, 0)) else (some ((0, (p166.2.2, L165)), 0, 0))) else (some (((-1), (p166.2.2, L165)), 0, 0)))) else none) else (bnO (pf L c10 11 5 (V a11)) fun L161 => bnO (fn_FP_use 0 a9 a5 S) fun p162 => if p162.1 = 0 then (adC 1 6 (if p162.2.1 = st0 then (if st0 = 0 then (some ((1, (p162.2.2, L161)), 0, 0)) else (some ((0, (p162.2.2, L161)), 0, 0))) else (some (((-1), (p162.2.2, L161)), 0, 0)))) else none)
theorem tj2_Law_changes_579 {sc : SC} {a5 : Int} (ha5 : inR a5) {a9 : Int} (ha9 : inR a9) {c10 : Nat} {a11 : Int} (ha11 : inR a11) {st0 : Int} (hst0 : inR st0) {S : St} {L : List PC} {q : (Int × LZ) × Nat × Nat} (h : jf2_Law_changes_579 a5 a9 c10 a11 st0 S L = some q) {mc ms k n : Nat} (hb : Bd k n mc ms q) : GX sc M_Law_changes mc ms 579 [(0, .ref 0), (5, V a5), (9, V a9), (10, .ref c10), (11, V a11)] [V st0] (wz (S, L)) k n (KXI q.1.1 q.1.2) := by
  unfold jf2_Law_changes_579 at h
  refine x_istore (pc := 579) (ls2 := [(12, V st0), (0, .ref 0), (5, V a5), (9, V a9), (10, .ref c10), (11, V a11)]) (dK D_Law_changes_5 26 rfl) (ltK rfl) rfl ?_
  refine x_aload (pc := 581) (j := 4) (dK D_Law_changes_5 27 rfl) rfl ?_
  refine x_iload (pc := 583) (j := 0) (dK D_Law_changes_5 28 rfl) rfl ?_
  refine wx_if_ne (pc := 585) (t := 593) (dK D_Law_changes_5 29 rfl) rfl hst0 (fun hc169 => ?_) (fun hc169 => ?_)
  · replace h := ifN h hc169
    refine x_iload (pc := 593) (j := 5) (dK D_Law_changes_5 32 rfl) rfl ?_
    refine bnE h ?_
    clear h
    intro L161 e_L161 h
    refine wx_put (Z := (S, L)) (pc := 595) (ci := 11) (f := 5) e_L161 (dK D_Law_changes_5 33 rfl) q_889 (ltK rfl) (ltK rfl) rfl okInt ?_
    refine x_aloadn (pc := 598) (i0 := 0) (j := 1) (dK D_Law_changes_5 34 rfl) rfl rfl ?_
    refine x_iload (pc := 599) (j := 3) (dK D_Law_changes_5 35 rfl) rfl ?_
    refine x_iload (pc := 601) (j := 2) (dK D_Law_changes_5 36 rfl) rfl ?_
    refine bnE h ?_
    clear h
    intro p162 e_p162 h
    refine gdE h ?_
    clear h
    intro hz_p162 h
    obtain ⟨yp162, h9, e9⟩ := adE2 h
    clear h
    subst e9
    have h := h9
    clear h9
    have hk1 := bd1 hb
    have hn1 := bd2 hb
    replace hb := bdA hb
    refine x_callX (pc := 603) (As := [V a9, V a5]) (rest := []) (mc' := 1) (ms' := 6) (dK D_Law_changes_5 37 rfl) Q_Law_408 sx_FP_use (fitK rfl) (isK_at (Z := (S, L161)) (ci := 10) isK0) rfl (leK rfl) hk1 hn1 (clTI hz_p162 (fun E => tf_FP_use (X := xz L161) rfl xz_hc ha9 ha5 e_p162)) (kxI' (fun h_p162 => ?_))
    refine x_iload (pc := 606) (j := 0) (dK D_Law_changes_5 38 rfl) rfl ?_
    refine wx_icmp_eq (pc := 608) (t := 615) (dK D_Law_changes_5 39 rfl) rfl h_p162 hst0 (fun hc164 => ?_) (fun hc164 => ?_)
    · replace h := ifP h hc164
      refine x_iload (pc := 615) (j := 0) (dK D_Law_changes_5 42 rfl) rfl ?_
      refine wx_if_ne (pc := 617) (t := 624) (dK D_Law_changes_5 43 rfl) rfl hst0 (fun hc163 => ?_) (fun hc163 => ?_)
      · replace h := ifN h hc163
        refine wx_iconst (pc := 624) (dK D_Law_changes_5 46 rfl) ?_
        obtain rfl := Option.some.inj h
        exact wk_iretI (pc := 625) (dK D_Law_changes_5 47 rfl) rfl (bdk hb) (bdn hb) ⟨rfl, (inRk rfl), rfl⟩
      · replace h := ifP h hc163
        refine wx_iconst (pc := 620) (dK D_Law_changes_5 44 rfl) ?_
        refine x_goto (pc := 621) (tgt := 625) (dK D_Law_changes_5 45 rfl) rfl ?_
        obtain rfl := Option.some.inj h
        exact wk_iretI (pc := 625) (dK D_Law_changes_5 47 rfl) rfl (bdk hb) (bdn hb) ⟨rfl, (inRk rfl), rfl⟩
    · replace h := ifN h hc164
      refine wx_iconst (pc := 611) (dK D_Law_changes_5 40 rfl) ?_
      refine x_goto (pc := 612) (tgt := 625) (dK D_Law_changes_5 41 rfl) rfl ?_
      obtain rfl := Option.some.inj h
      exact wk_iretI (pc := 625) (dK D_Law_changes_5 47 rfl) rfl (bdk hb) (bdn hb) ⟨rfl, (inRk rfl), rfl⟩
  · replace h := ifP h hc169
    refine x_iload (pc := 588) (j := 2) (dK D_Law_changes_5 30 rfl) rfl ?_
    refine x_goto (pc := 590) (tgt := 595) (dK D_Law_changes_5 31 rfl) rfl ?_
    refine bnE h ?_
    clear h
    intro L165 e_L165 h
    refine wx_put (Z := (S, L)) (pc := 595) (ci := 11) (f := 5) e_L165 (dK D_Law_changes_5 33 rfl) q_889 (ltK rfl) (ltK rfl) rfl okInt ?_
    refine x_aloadn (pc := 598) (i0 := 0) (j := 1) (dK D_Law_changes_5 34 rfl) rfl rfl ?_
    refine x_iload (pc := 599) (j := 3) (dK D_Law_changes_5 35 rfl) rfl ?_
    refine x_iload (pc := 601) (j := 2) (dK D_Law_changes_5 36 rfl) rfl ?_
    refine bnE h ?_
    clear h
    intro p166 e_p166 h
    refine gdE h ?_
    clear h
    intro hz_p166 h
    obtain ⟨yp166, h9, e9⟩ := adE2 h
    clear h
    subst e9
    have h := h9
    clear h9
    have hk1 := bd1 hb
    have hn1 := bd2 hb
    replace hb := bdA hb
    refine x_callX (pc := 603) (As := [V a9, V a5]) (rest := []) (mc' := 1) (ms' := 6) (dK D_Law_changes_5 37 rfl) Q_Law_408 sx_FP_use (fitK rfl) (isK_at (Z := (S, L165)) (ci := 10) isK0) rfl (leK rfl) hk1 hn1 (clTI hz_p166 (fun E => tf_FP_use (X := xz L165) rfl xz_hc ha9 ha5 e_p166)) (kxI' (fun h_p166 => ?_))
    refine x_iload (pc := 606) (j := 0) (dK D_Law_changes_5 38 rfl) rfl ?_
    refine wx_icmp_eq (pc := 608) (t := 615) (dK D_Law_changes_5 39 rfl) rfl h_p166 hst0 (fun hc168 => ?_) (fun hc168 => ?_)
    · replace h := ifP h hc168
      refine x_iload (pc := 615) (j := 0) (dK D_Law_changes_5 42 rfl) rfl ?_
      refine wx_if_ne (pc := 617) (t := 624) (dK D_Law_changes_5 43 rfl) rfl hst0 (fun hc167 => ?_) (fun hc167 => ?_)
      · replace h := ifN h hc167
        refine wx_iconst (pc := 624) (dK D_Law_changes_5 46 rfl) ?_
        obtain rfl := Option.some.inj h
        exact wk_iretI (pc := 625) (dK D_Law_changes_5 47 rfl) rfl (bdk hb) (bdn hb) ⟨rfl, (inRk rfl), rfl⟩
      · replace h := ifP h hc167
        refine wx_iconst (pc := 620) (dK D_Law_changes_5 44 rfl) ?_
        refine x_goto (pc := 621) (tgt := 625) (dK D_Law_changes_5 45 rfl) rfl ?_
        obtain rfl := Option.some.inj h
        exact wk_iretI (pc := 625) (dK D_Law_changes_5 47 rfl) rfl (bdk hb) (bdn hb) ⟨rfl, (inRk rfl), rfl⟩
    · replace h := ifN h hc168
      refine wx_iconst (pc := 611) (dK D_Law_changes_5 40 rfl) ?_
      refine x_goto (pc := 612) (tgt := 625) (dK D_Law_changes_5 41 rfl) rfl ?_
      obtain rfl := Option.some.inj h
      exact wk_iretI (pc := 625) (dK D_Law_changes_5 47 rfl) rfl (bdk hb) (bdn hb) ⟨rfl, (inRk rfl), rfl⟩
def jf2_Law_changes_469 (c1 : Nat) (a2 : Int) (a3 : Int) (a4 : Int) (a5 : Int) (a6 : Int) (c7 : Value) (a8 : Int) (S : St) (L : List PC) : Option ((Int × LZ) × Nat × Nat) := if a2 = 8 then (bnO (gfV L c1 12 6) fun v139 => rfB v139 fun r140 => if isK L r140 13 = true then (bnO (gn_AL_isEmpty r140 S L) fun p141 => if p141 = true then (jf2_Law_changes_626 c1 a2 a3 a4 a5 a6 c7 a8 S L) else (bnO (gfV L c1 12 6) fun v144 => rfB v144 fun r145 => if isK L r145 13 = true then (bnO (gn_AL_size r145 S L) fun p146 => if 0 < p146 then (nm (wr (a3.tmod p146)) fun v149 => bnO (gfV L c1 12 6) fun v150 => rfB v150 fun r151 => if isK L r151 13 = true then (bnO (gn_AL_get r151 v149 S L) fun p152 => rfB p152 fun r154 => if isK L r154 11 = true then (bnO (gfI L r154 11 5) fun v156 => bnO (pf L r154 11 5 (V 0)) fun L157 => if 1 ≤ a5 then (if isK L157 c1 12 = true then (bnO (gn_LP_isShut c1 a5 S L157) fun p158 => if p158 = true then (jf2_Law_changes_579 a5 v149 r154 v156 2 S L157) else (if v156 ≤ 0 then (if isK L157 c1 12 = true then (bnO (gn_LP_left c1 a5 S L157) fun p170 => bnO (gfI L157 r154 11 0) fun v172 => if v172 ≤ p170 then (jf2_Law_changes_579 a5 v149 r154 v156 0 S L157) else (jf2_Law_changes_579 a5 v149 r154 v156 3 S L157)) else none) else (if isK L157 c1 12 = true then (bnO (gn_LP_isShut c1 v156 S L157) fun p174 => if p174 = true then (jf2_Law_changes_579 a5 v149 r154 v156 2 S L157) else (if isK L157 c1 12 = true then (bnO (gn_LP_left c1 a5 S L157) fun p177 => bnO (gfI L157 r154 11 0) fun v179 => if v179 ≤ p177 then (jf2_Law_changes_579 a5 v149 r154 v156 0 S L157) else (jf2_Law_changes_579 a5 v149 r154 v156 3 S L157)) else none)) else none))) else none) else (jf2_Law_changes_579 a5 v149 r154 v156 1 S L157)) else none) else none) else none) else none)) else none) else (jf2_Law_changes_626 c1 a2 a3 a4 a5 a6 c7 a8 S L)
theorem tj2_Law_changes_469 {sc : SC} {c1 : Nat} {a2 : Int} (ha2 : inR a2) {a3 : Int} (ha3 : inR a3) {a4 : Int} (ha4 : inR a4) {a5 : Int} (ha5 : inR a5) {a6 : Int} (ha6 : inR a6) {c7 : Value} (hc7 : c7 = .null ∨ ∃ b, c7 = .ref b) {a8 : Int} (ha8 : inR a8) {S : St} {L : List PC} {q : (Int × LZ) × Nat × Nat} (h : jf2_Law_changes_469 c1 a2 a3 a4 a5 a6 c7 a8 S L = some q) {mc ms k n : Nat} (hb : Bd k n mc ms q) : GX sc M_Law_changes mc ms 469 [(0, .ref 0), (1, .ref c1), (2, V a2), (3, V a3), (4, V a4), (5, V a5), (6, V a6), (7, c7), (8, V a8)] [] (wz (S, L)) k n (KXI q.1.1 q.1.2) := by
  unfold jf2_Law_changes_469 at h
  refine x_iloadn (pc := 469) (i0 := 2) (j := 2) (dK D_Law_changes_4 25 rfl) rfl rfl ?_
  refine wx_bipush (pc := 470) (dK D_Law_changes_4 26 rfl) rfl ?_
  refine wx_icmp_ne (pc := 472) (t := 626) (dK D_Law_changes_4 27 rfl) rfl ha2 (inRk rfl) (fun hc183 => ?_) (fun hc183 => ?_)
  · replace h := ifN h hc183
    exact tj2_Law_changes_626 ha2 ha3 ha4 ha5 ha6 hc7 ha8 h hb
  · replace h := ifP h hc183
    refine x_aloadn (pc := 475) (i0 := 1) (j := 1) (dK D_Law_changes_4 28 rfl) rfl rfl ?_
    refine bnE h ?_
    clear h
    intro v139 e_v139 h
    refine wx_getV (pc := 476) (ci := 12) (f := 6) e_v139 (dK D_Law_changes_4 29 rfl) q_780 (ltK rfl) (ltK rfl) (fun hv139 => ?_)
    refine rfE h ?_
    clear h
    intro r140 e_r140 h
    rw [e_r140]
    refine gdE h ?_
    clear h
    intro hk142 h
    refine bnE h ?_
    clear h
    intro p141 e_p141 h
    refine x_callX (pc := 479) (As := []) (rest := []) (mc' := 0) (ms' := 0) (dK D_Law_changes_4 30 rfl) Q_Law_285 sx_AL_isEmpty (fitK rfl) (isK_at (Z := (S, L)) (ci := 13) hk142) rfl (leK rfl) (bdk hb) (bdn hb) (tg_AL_isEmpty  e_p141) (kxB' ?_)
    refine wx_ifB_ne (pc := 482) (b := p141) (t := 626) (dK D_Law_changes_4 31 rfl) rfl (fun hc143 => ?_) (fun hc143 => ?_)
    · replace h := ifP h hc143
      exact tj2_Law_changes_626 ha2 ha3 ha4 ha5 ha6 hc7 ha8 h hb
    · replace h := ifN h hc143
      refine x_iloadn (pc := 485) (i0 := 3) (j := 3) (dK D_Law_changes_4 32 rfl) rfl rfl ?_
      refine x_aloadn (pc := 486) (i0 := 1) (j := 1) (dK D_Law_changes_4 33 rfl) rfl rfl ?_
      refine bnE h ?_
      clear h
      intro v144 e_v144 h
      refine wx_getV (pc := 487) (ci := 12) (f := 6) e_v144 (dK D_Law_changes_4 34 rfl) q_780 (ltK rfl) (ltK rfl) (fun hv144 => ?_)
      refine rfE h ?_
      clear h
      intro r145 e_r145 h
      rw [e_r145]
      refine gdE h ?_
      clear h
      intro hk147 h
      refine bnE h ?_
      clear h
      intro p146 e_p146 h
      refine x_callX (pc := 490) (As := []) (rest := [V a3]) (mc' := 0) (ms' := 0) (dK D_Law_changes_4 35 rfl) Q_Law_55 sx_AL_size (fitK rfl) (isK_at (Z := (S, L)) (ci := 13) hk147) rfl (leK rfl) (bdk hb) (bdn hb) (tg_AL_size  e_p146) (kxI' (fun h_p146 => ?_))
      refine gdE h ?_
      clear h
      intro hp148 h
      refine wx_irem (pc := 493) (dK D_Law_changes_4 36 rfl) ha3 h_p146 hp148 ?_
      refine nmE h ?_
      clear h
      intro v149 e_v149 h
      refine wtop e_v149 ?_
      refine x_istore (pc := 494) (ls2 := [(9, V v149), (0, .ref 0), (1, .ref c1), (2, V a2), (3, V a3), (4, V a4), (5, V a5), (6, V a6), (7, c7), (8, V a8)]) (dK D_Law_changes_4 37 rfl) (ltK rfl) rfl ?_
      refine x_aloadn (pc := 496) (i0 := 1) (j := 2) (dK D_Law_changes_4 38 rfl) rfl rfl ?_
      refine bnE h ?_
      clear h
      intro v150 e_v150 h
      refine wx_getV (pc := 497) (ci := 12) (f := 6) e_v150 (dK D_Law_changes_4 39 rfl) q_780 (ltK rfl) (ltK rfl) (fun hv150 => ?_)
      refine x_iload (pc := 500) (j := 0) (dK D_Law_changes_4 40 rfl) rfl ?_
      refine rfE h ?_
      clear h
      intro r151 e_r151 h
      rw [e_r151]
      refine gdE h ?_
      clear h
      intro hk153 h
      refine bnE h ?_
      clear h
      intro p152 e_p152 h
      refine x_callX (pc := 502) (As := [V v149]) (rest := []) (mc' := 0) (ms' := 0) (dK D_Law_changes_4 41 rfl) Q_Law_69 sx_AL_get (fitK rfl) (isK_at (Z := (S, L)) (ci := 13) hk153) rfl (leK rfl) (bdk hb) (bdn hb) (tg_AL_get (Vn_in e_v149) e_p152) (kxR (fun h_p152 => ?_))
      refine rfE h ?_
      clear h
      intro r154 e_r154 h
      rw [e_r154]
      refine gdE h ?_
      clear h
      intro hk155 h
      refine x_cast (pc := 505) (dK D_Law_changes_4 42 rfl) q_1033 (isK_at (Z := (S, L)) (ci := 11) hk155) ?_
      refine x_astore (pc := 508) (ls2 := [(10, .ref r154), (9, V v149), (0, .ref 0), (1, .ref c1), (2, V a2), (3, V a3), (4, V a4), (5, V a5), (6, V a6), (7, c7), (8, V a8)]) (dK D_Law_changes_4 43 rfl) (ltK rfl) rfl ?_
      refine x_aload (pc := 510) (j := 0) (dK D_Law_changes_4 44 rfl) rfl ?_
      refine bnE h ?_
      clear h
      intro v156 e_v156 h
      refine wx_getI (pc := 512) (ci := 11) (f := 5) e_v156 (dK D_Law_changes_4 45 rfl) q_889 (ltK rfl) (ltK rfl) ?_
      refine x_istore (pc := 515) (ls2 := [(11, V v156), (10, .ref r154), (9, V v149), (0, .ref 0), (1, .ref c1), (2, V a2), (3, V a3), (4, V a4), (5, V a5), (6, V a6), (7, c7), (8, V a8)]) (dK D_Law_changes_4 46 rfl) (ltK rfl) rfl ?_
      refine x_aload (pc := 517) (j := 1) (dK D_Law_changes_4 47 rfl) rfl ?_
      refine wx_iconst (pc := 519) (dK D_Law_changes_4 48 rfl) ?_
      refine bnE h ?_
      clear h
      intro L157 e_L157 h
      refine wx_put (Z := (S, L)) (pc := 520) (ci := 11) (f := 5) e_L157 (dK D_Law_changes_4 49 rfl) q_889 (ltK rfl) (ltK rfl) rfl okInt ?_
      refine x_iload (pc := 523) (j := 8) (dK D_Law_changes_5 0 rfl) rfl ?_
      refine wx_iconst (pc := 525) (dK D_Law_changes_5 1 rfl) ?_
      refine wx_icmp_ge (pc := 526) (t := 533) (dK D_Law_changes_5 2 rfl) rfl ha5 (inRk rfl) (fun hc182 => ?_) (fun hc182 => ?_)
      · replace h := ifP h hc182
        refine x_aloadn (pc := 533) (i0 := 1) (j := 4) (dK D_Law_changes_5 5 rfl) rfl rfl ?_
        refine x_iload (pc := 534) (j := 8) (dK D_Law_changes_5 6 rfl) rfl ?_
        refine gdE h ?_
        clear h
        intro hk159 h
        refine bnE h ?_
        clear h
        intro p158 e_p158 h
        refine x_callX (pc := 536) (As := [V a5]) (rest := []) (mc' := 0) (ms' := 0) (dK D_Law_changes_5 7 rfl) Q_Law_325 sx_LP_isShut (fitK rfl) (isK_at (Z := (S, L157)) (ci := 12) hk159) rfl (leK rfl) (bdk hb) (bdn hb) (tg_LP_isShut ha5 e_p158) (kxB' ?_)
        refine wx_ifB_ne (pc := 539) (b := p158) (t := 556) (dK D_Law_changes_5 8 rfl) rfl (fun hc160 => ?_) (fun hc160 => ?_)
        · replace h := ifP h hc160
          refine wx_iconst (pc := 556) (dK D_Law_changes_5 15 rfl) ?_
          refine x_goto (pc := 557) (tgt := 579) (dK D_Law_changes_5 16 rfl) rfl ?_
          refine x_weak (ls' := [(0, .ref 0), (5, V a5), (9, V v149), (10, .ref r154), (11, V v156)]) (sbc 3 rfl (sbc 8 rfl (sbc 2 rfl (sbc 1 rfl (sbc 0 rfl sbn))))) ?_
          exact tj2_Law_changes_579 ha5 (Vn_in e_v149) (vI_at e_v156).2 (inRk rfl) h hb
        · replace h := ifN h hc160
          refine x_iload (pc := 542) (j := 0) (dK D_Law_changes_5 9 rfl) rfl ?_
          refine wx_if_le (pc := 544) (t := 560) (dK D_Law_changes_5 10 rfl) rfl (vI_at e_v156).2 (fun hc181 => ?_) (fun hc181 => ?_)
          · replace h := ifP h hc181
            refine x_aloadn (pc := 560) (i0 := 1) (j := 4) (dK D_Law_changes_5 17 rfl) rfl rfl ?_
            refine x_iload (pc := 561) (j := 8) (dK D_Law_changes_5 18 rfl) rfl ?_
            refine gdE h ?_
            clear h
            intro hk171 h
            refine bnE h ?_
            clear h
            intro p170 e_p170 h
            refine x_callX (pc := 563) (As := [V a5]) (rest := []) (mc' := 0) (ms' := 0) (dK D_Law_changes_5 19 rfl) Q_Law_142 sx_LP_left (fitK rfl) (isK_at (Z := (S, L157)) (ci := 12) hk171) rfl (leK rfl) (bdk hb) (bdn hb) (tg_LP_left ha5 e_p170) (kxI' (fun h_p170 => ?_))
            refine x_aload (pc := 566) (j := 1) (dK D_Law_changes_5 20 rfl) rfl ?_
            refine bnE h ?_
            clear h
            intro v172 e_v172 h
            refine wx_getI (pc := 568) (ci := 11) (f := 0) e_v172 (dK D_Law_changes_5 21 rfl) q_874 (ltK rfl) (ltK rfl) ?_
            refine wx_icmp_ge (pc := 571) (t := 578) (dK D_Law_changes_5 22 rfl) rfl h_p170 (vI_at e_v172).2 (fun hc173 => ?_) (fun hc173 => ?_)
            · replace h := ifP h hc173
              refine wx_iconst (pc := 578) (dK D_Law_changes_5 25 rfl) ?_
              refine x_weak (ls' := [(0, .ref 0), (5, V a5), (9, V v149), (10, .ref r154), (11, V v156)]) (sbc 3 rfl (sbc 8 rfl (sbc 2 rfl (sbc 1 rfl (sbc 0 rfl sbn))))) ?_
              exact tj2_Law_changes_579 ha5 (Vn_in e_v149) (vI_at e_v156).2 (inRk rfl) h hb
            · replace h := ifN h hc173
              refine wx_iconst (pc := 574) (dK D_Law_changes_5 23 rfl) ?_
              refine x_goto (pc := 575) (tgt := 579) (dK D_Law_changes_5 24 rfl) rfl ?_
              refine x_weak (ls' := [(0, .ref 0), (5, V a5), (9, V v149), (10, .ref r154), (11, V v156)]) (sbc 3 rfl (sbc 8 rfl (sbc 2 rfl (sbc 1 rfl (sbc 0 rfl sbn))))) ?_
              exact tj2_Law_changes_579 ha5 (Vn_in e_v149) (vI_at e_v156).2 (inRk rfl) h hb
          · replace h := ifN h hc181
            refine x_aloadn (pc := 547) (i0 := 1) (j := 4) (dK D_Law_changes_5 11 rfl) rfl rfl ?_
            refine x_iload (pc := 548) (j := 0) (dK D_Law_changes_5 12 rfl) rfl ?_
            refine gdE h ?_
            clear h
            intro hk175 h
            refine bnE h ?_
            clear h
            intro p174 e_p174 h
            refine x_callX (pc := 550) (As := [V v156]) (rest := []) (mc' := 0) (ms' := 0) (dK D_Law_changes_5 13 rfl) Q_Law_325 sx_LP_isShut (fitK rfl) (isK_at (Z := (S, L157)) (ci := 12) hk175) rfl (leK rfl) (bdk hb) (bdn hb) (tg_LP_isShut (vI_at e_v156).2 e_p174) (kxB' ?_)
            refine wx_ifB_eq (pc := 553) (b := p174) (t := 560) (dK D_Law_changes_5 14 rfl) rfl (fun hc176 => ?_) (fun hc176 => ?_)
            · replace h := ifP h hc176
              refine wx_iconst (pc := 556) (dK D_Law_changes_5 15 rfl) ?_
              refine x_goto (pc := 557) (tgt := 579) (dK D_Law_changes_5 16 rfl) rfl ?_
              refine x_weak (ls' := [(0, .ref 0), (5, V a5), (9, V v149), (10, .ref r154), (11, V v156)]) (sbc 3 rfl (sbc 8 rfl (sbc 2 rfl (sbc 1 rfl (sbc 0 rfl sbn))))) ?_
              exact tj2_Law_changes_579 ha5 (Vn_in e_v149) (vI_at e_v156).2 (inRk rfl) h hb
            · replace h := ifN h hc176
              refine x_aloadn (pc := 560) (i0 := 1) (j := 4) (dK D_Law_changes_5 17 rfl) rfl rfl ?_
              refine x_iload (pc := 561) (j := 8) (dK D_Law_changes_5 18 rfl) rfl ?_
              refine gdE h ?_
              clear h
              intro hk178 h
              refine bnE h ?_
              clear h
              intro p177 e_p177 h
              refine x_callX (pc := 563) (As := [V a5]) (rest := []) (mc' := 0) (ms' := 0) (dK D_Law_changes_5 19 rfl) Q_Law_142 sx_LP_left (fitK rfl) (isK_at (Z := (S, L157)) (ci := 12) hk178) rfl (leK rfl) (bdk hb) (bdn hb) (tg_LP_left ha5 e_p177) (kxI' (fun h_p177 => ?_))
              refine x_aload (pc := 566) (j := 1) (dK D_Law_changes_5 20 rfl) rfl ?_
              refine bnE h ?_
              clear h
              intro v179 e_v179 h
              refine wx_getI (pc := 568) (ci := 11) (f := 0) e_v179 (dK D_Law_changes_5 21 rfl) q_874 (ltK rfl) (ltK rfl) ?_
              refine wx_icmp_ge (pc := 571) (t := 578) (dK D_Law_changes_5 22 rfl) rfl h_p177 (vI_at e_v179).2 (fun hc180 => ?_) (fun hc180 => ?_)
              · replace h := ifP h hc180
                refine wx_iconst (pc := 578) (dK D_Law_changes_5 25 rfl) ?_
                refine x_weak (ls' := [(0, .ref 0), (5, V a5), (9, V v149), (10, .ref r154), (11, V v156)]) (sbc 3 rfl (sbc 8 rfl (sbc 2 rfl (sbc 1 rfl (sbc 0 rfl sbn))))) ?_
                exact tj2_Law_changes_579 ha5 (Vn_in e_v149) (vI_at e_v156).2 (inRk rfl) h hb
              · replace h := ifN h hc180
                refine wx_iconst (pc := 574) (dK D_Law_changes_5 23 rfl) ?_
                refine x_goto (pc := 575) (tgt := 579) (dK D_Law_changes_5 24 rfl) rfl ?_
                refine x_weak (ls' := [(0, .ref 0), (5, V a5), (9, V v149), (10, .ref r154), (11, V v156)]) (sbc 3 rfl (sbc 8 rfl (sbc 2 rfl (sbc 1 rfl (sbc 0 rfl sbn))))) ?_
                exact tj2_Law_changes_579 ha5 (Vn_in e_v149) (vI_at e_v156).2 (inRk rfl) h hb
      · replace h := ifN h hc182
        refine wx_iconst (pc := 529) (dK D_Law_changes_5 3 rfl) ?_
        refine x_goto (pc := 530) (tgt := 579) (dK D_Law_changes_5 4 rfl) rfl ?_
        refine x_weak (ls' := [(0, .ref 0), (5, V a5), (9, V v149), (10, .ref r154), (11, V v156)]) (sbc 3 rfl (sbc 8 rfl (sbc 2 rfl (sbc 1 rfl (sbc 0 rfl sbn))))) ?_
        exact tj2_Law_changes_579 ha5 (Vn_in e_v149) (vI_at e_v156).2 (inRk rfl) h hb
def jf2_Law_changes_430 (a9 : Int) (c10 : Nat) (st0 : Int) (S : St) (L : List PC) : Option ((Int × LZ) × Nat × Nat) := if st0 = 0 then (bnO (fn_FP_takeStory 0 a9 S) fun p202 => if p202.1 = 0 then (adC 1 6 (if (bi p202.2.1) = st0 then (if st0 = 0 then (some ((0, (p202.2.2, L)), 0, 0)) else (some ((1, (p202.2.2, L)), 0, 0))) else (some (((-1), (p202.2.2, L)), 0, 0)))) else none) else (bnO (pf L c10 11 5 (V 0)) fun L205 => bnO (fn_FP_takeStory 0 a9 S) fun p206 => if p206.1 = 0 then (adC 1 6 (if (bi p206.2.1) = st0 then (if st0 = 0 then (some ((0, (p206.2.2, L205)), 0, 0)) else (some ((1, (p206.2.2, L205)), 0, 0))) else (some (((-1), (p206.2.2, L205)), 0, 0)))) else none)
theorem tj2_Law_changes_430 {sc : SC} {a9 : Int} (ha9 : inR a9) {c10 : Nat} {st0 : Int} (hst0 : inR st0) {S : St} {L : List PC} {q : (Int × LZ) × Nat × Nat} (h : jf2_Law_changes_430 a9 c10 st0 S L = some q) {mc ms k n : Nat} (hb : Bd k n mc ms q) : GX sc M_Law_changes mc ms 430 [(0, .ref 0), (9, V a9), (10, .ref c10)] [V st0] (wz (S, L)) k n (KXI q.1.1 q.1.2) := by
  unfold jf2_Law_changes_430 at h
  refine x_istore (pc := 430) (ls2 := [(11, V st0), (0, .ref 0), (9, V a9), (10, .ref c10)]) (dK D_Law_changes_4 6 rfl) (ltK rfl) rfl ?_
  refine x_iload (pc := 432) (j := 0) (dK D_Law_changes_4 7 rfl) rfl ?_
  refine wx_if_eq (pc := 434) (t := 443) (dK D_Law_changes_4 8 rfl) rfl hst0 (fun hc209 => ?_) (fun hc209 => ?_)
  · replace h := ifP h hc209
    refine x_aloadn (pc := 443) (i0 := 0) (j := 1) (dK D_Law_changes_4 12 rfl) rfl rfl ?_
    refine x_iload (pc := 444) (j := 2) (dK D_Law_changes_4 13 rfl) rfl ?_
    refine bnE h ?_
    clear h
    intro p202 e_p202 h
    refine gdE h ?_
    clear h
    intro hz_p202 h
    obtain ⟨yp202, h9, e9⟩ := adE2 h
    clear h
    subst e9
    have h := h9
    clear h9
    have hk1 := bd1 hb
    have hn1 := bd2 hb
    replace hb := bdA hb
    refine x_callX (pc := 446) (As := [V a9]) (rest := []) (mc' := 1) (ms' := 6) (dK D_Law_changes_4 14 rfl) Q_Law_405 sx_FP_takeStory (fitK rfl) (isK_at (Z := (S, L)) (ci := 10) isK0) rfl (leK rfl) hk1 hn1 (clTB hz_p202 (fun E => tf_FP_takeStory (X := xz L) rfl xz_hc ha9 e_p202)) (kxB' ?_)
    refine x_iload (pc := 449) (j := 0) (dK D_Law_changes_4 15 rfl) rfl ?_
    refine wx_icmp_eq (pc := 451) (t := 458) (dK D_Law_changes_4 16 rfl) rfl (bi_in _) hst0 (fun hc204 => ?_) (fun hc204 => ?_)
    · replace h := ifP h hc204
      refine x_iload (pc := 458) (j := 0) (dK D_Law_changes_4 19 rfl) rfl ?_
      refine wx_if_eq (pc := 460) (t := 467) (dK D_Law_changes_4 20 rfl) rfl hst0 (fun hc203 => ?_) (fun hc203 => ?_)
      · replace h := ifP h hc203
        refine wx_iconst (pc := 467) (dK D_Law_changes_4 23 rfl) ?_
        obtain rfl := Option.some.inj h
        exact wk_iretI (pc := 468) (dK D_Law_changes_4 24 rfl) rfl (bdk hb) (bdn hb) ⟨rfl, (inRk rfl), rfl⟩
      · replace h := ifN h hc203
        refine wx_iconst (pc := 463) (dK D_Law_changes_4 21 rfl) ?_
        refine x_goto (pc := 464) (tgt := 468) (dK D_Law_changes_4 22 rfl) rfl ?_
        obtain rfl := Option.some.inj h
        exact wk_iretI (pc := 468) (dK D_Law_changes_4 24 rfl) rfl (bdk hb) (bdn hb) ⟨rfl, (inRk rfl), rfl⟩
    · replace h := ifN h hc204
      refine wx_iconst (pc := 454) (dK D_Law_changes_4 17 rfl) ?_
      refine x_goto (pc := 455) (tgt := 468) (dK D_Law_changes_4 18 rfl) rfl ?_
      obtain rfl := Option.some.inj h
      exact wk_iretI (pc := 468) (dK D_Law_changes_4 24 rfl) rfl (bdk hb) (bdn hb) ⟨rfl, (inRk rfl), rfl⟩
  · replace h := ifN h hc209
    refine x_aload (pc := 437) (j := 3) (dK D_Law_changes_4 9 rfl) rfl ?_
    refine wx_iconst (pc := 439) (dK D_Law_changes_4 10 rfl) ?_
    refine bnE h ?_
    clear h
    intro L205 e_L205 h
    refine wx_put (Z := (S, L)) (pc := 440) (ci := 11) (f := 5) e_L205 (dK D_Law_changes_4 11 rfl) q_889 (ltK rfl) (ltK rfl) rfl okInt ?_
    refine x_aloadn (pc := 443) (i0 := 0) (j := 1) (dK D_Law_changes_4 12 rfl) rfl rfl ?_
    refine x_iload (pc := 444) (j := 2) (dK D_Law_changes_4 13 rfl) rfl ?_
    refine bnE h ?_
    clear h
    intro p206 e_p206 h
    refine gdE h ?_
    clear h
    intro hz_p206 h
    obtain ⟨yp206, h9, e9⟩ := adE2 h
    clear h
    subst e9
    have h := h9
    clear h9
    have hk1 := bd1 hb
    have hn1 := bd2 hb
    replace hb := bdA hb
    refine x_callX (pc := 446) (As := [V a9]) (rest := []) (mc' := 1) (ms' := 6) (dK D_Law_changes_4 14 rfl) Q_Law_405 sx_FP_takeStory (fitK rfl) (isK_at (Z := (S, L205)) (ci := 10) isK0) rfl (leK rfl) hk1 hn1 (clTB hz_p206 (fun E => tf_FP_takeStory (X := xz L205) rfl xz_hc ha9 e_p206)) (kxB' ?_)
    refine x_iload (pc := 449) (j := 0) (dK D_Law_changes_4 15 rfl) rfl ?_
    refine wx_icmp_eq (pc := 451) (t := 458) (dK D_Law_changes_4 16 rfl) rfl (bi_in _) hst0 (fun hc208 => ?_) (fun hc208 => ?_)
    · replace h := ifP h hc208
      refine x_iload (pc := 458) (j := 0) (dK D_Law_changes_4 19 rfl) rfl ?_
      refine wx_if_eq (pc := 460) (t := 467) (dK D_Law_changes_4 20 rfl) rfl hst0 (fun hc207 => ?_) (fun hc207 => ?_)
      · replace h := ifP h hc207
        refine wx_iconst (pc := 467) (dK D_Law_changes_4 23 rfl) ?_
        obtain rfl := Option.some.inj h
        exact wk_iretI (pc := 468) (dK D_Law_changes_4 24 rfl) rfl (bdk hb) (bdn hb) ⟨rfl, (inRk rfl), rfl⟩
      · replace h := ifN h hc207
        refine wx_iconst (pc := 463) (dK D_Law_changes_4 21 rfl) ?_
        refine x_goto (pc := 464) (tgt := 468) (dK D_Law_changes_4 22 rfl) rfl ?_
        obtain rfl := Option.some.inj h
        exact wk_iretI (pc := 468) (dK D_Law_changes_4 24 rfl) rfl (bdk hb) (bdn hb) ⟨rfl, (inRk rfl), rfl⟩
    · replace h := ifN h hc208
      refine wx_iconst (pc := 454) (dK D_Law_changes_4 17 rfl) ?_
      refine x_goto (pc := 455) (tgt := 468) (dK D_Law_changes_4 18 rfl) rfl ?_
      obtain rfl := Option.some.inj h
      exact wk_iretI (pc := 468) (dK D_Law_changes_4 24 rfl) rfl (bdk hb) (bdn hb) ⟨rfl, (inRk rfl), rfl⟩
def jf2_Law_changes_367 (c1 : Nat) (a2 : Int) (a3 : Int) (a4 : Int) (a5 : Int) (a6 : Int) (c7 : Value) (a8 : Int) (S : St) (L : List PC) : Option ((Int × LZ) × Nat × Nat) := if a2 = 7 then (bnO (gfV L c1 12 5) fun v184 => rfB v184 fun r185 => if isK L r185 13 = true then (bnO (gn_AL_isEmpty r185 S L) fun p186 => if p186 = true then (jf2_Law_changes_469 c1 a2 a3 a4 a5 a6 c7 a8 S L) else (bnO (gfV L c1 12 5) fun v189 => rfB v189 fun r190 => if isK L r190 13 = true then (bnO (gn_AL_size r190 S L) fun p191 => if 0 < p191 then (nm (wr (a3.tmod p191)) fun v194 => bnO (gfV L c1 12 5) fun v195 => rfB v195 fun r196 => if isK L r196 13 = true then (bnO (gn_AL_get r196 v194 S L) fun p197 => rfB p197 fun r199 => if isK L r199 11 = true then (bnO (gfI L r199 11 5) fun v201 => if v201 ≤ 0 then (jf2_Law_changes_430 v194 r199 0 S L) else (if isK L c1 12 = true then (bnO (gn_LP_shut c1 r199 S L) fun p210 => if p210 = true then (jf2_Law_changes_430 v194 r199 0 S L) else (jf2_Law_changes_430 v194 r199 1 S L)) else none)) else none) else none) else none) else none)) else none) else (jf2_Law_changes_469 c1 a2 a3 a4 a5 a6 c7 a8 S L)
theorem tj2_Law_changes_367 {sc : SC} {c1 : Nat} {a2 : Int} (ha2 : inR a2) {a3 : Int} (ha3 : inR a3) {a4 : Int} (ha4 : inR a4) {a5 : Int} (ha5 : inR a5) {a6 : Int} (ha6 : inR a6) {c7 : Value} (hc7 : c7 = .null ∨ ∃ b, c7 = .ref b) {a8 : Int} (ha8 : inR a8) {S : St} {L : List PC} {q : (Int × LZ) × Nat × Nat} (h : jf2_Law_changes_367 c1 a2 a3 a4 a5 a6 c7 a8 S L = some q) {mc ms k n : Nat} (hb : Bd k n mc ms q) : GX sc M_Law_changes mc ms 367 [(0, .ref 0), (1, .ref c1), (2, V a2), (3, V a3), (4, V a4), (5, V a5), (6, V a6), (7, c7), (8, V a8)] [] (wz (S, L)) k n (KXI q.1.1 q.1.2) := by
  unfold jf2_Law_changes_367 at h
  refine x_iloadn (pc := 367) (i0 := 2) (j := 2) (dK D_Law_changes_3 27 rfl) rfl rfl ?_
  refine wx_bipush (pc := 368) (dK D_Law_changes_3 28 rfl) rfl ?_
  refine wx_icmp_ne (pc := 370) (t := 469) (dK D_Law_changes_3 29 rfl) rfl ha2 (inRk rfl) (fun hc214 => ?_) (fun hc214 => ?_)
  · replace h := ifN h hc214
    exact tj2_Law_changes_469 ha2 ha3 ha4 ha5 ha6 hc7 ha8 h hb
  · replace h := ifP h hc214
    refine x_aloadn (pc := 373) (i0 := 1) (j := 1) (dK D_Law_changes_3 30 rfl) rfl rfl ?_
    refine bnE h ?_
    clear h
    intro v184 e_v184 h
    refine wx_getV (pc := 374) (ci := 12) (f := 5) e_v184 (dK D_Law_changes_3 31 rfl) q_778 (ltK rfl) (ltK rfl) (fun hv184 => ?_)
    refine rfE h ?_
    clear h
    intro r185 e_r185 h
    rw [e_r185]
    refine gdE h ?_
    clear h
    intro hk187 h
    refine bnE h ?_
    clear h
    intro p186 e_p186 h
    refine x_callX (pc := 377) (As := []) (rest := []) (mc' := 0) (ms' := 0) (dK D_Law_changes_3 32 rfl) Q_Law_285 sx_AL_isEmpty (fitK rfl) (isK_at (Z := (S, L)) (ci := 13) hk187) rfl (leK rfl) (bdk hb) (bdn hb) (tg_AL_isEmpty  e_p186) (kxB' ?_)
    refine wx_ifB_ne (pc := 380) (b := p186) (t := 469) (dK D_Law_changes_3 33 rfl) rfl (fun hc188 => ?_) (fun hc188 => ?_)
    · replace h := ifP h hc188
      exact tj2_Law_changes_469 ha2 ha3 ha4 ha5 ha6 hc7 ha8 h hb
    · replace h := ifN h hc188
      refine x_iloadn (pc := 383) (i0 := 3) (j := 3) (dK D_Law_changes_3 34 rfl) rfl rfl ?_
      refine x_aloadn (pc := 384) (i0 := 1) (j := 1) (dK D_Law_changes_3 35 rfl) rfl rfl ?_
      refine bnE h ?_
      clear h
      intro v189 e_v189 h
      refine wx_getV (pc := 385) (ci := 12) (f := 5) e_v189 (dK D_Law_changes_3 36 rfl) q_778 (ltK rfl) (ltK rfl) (fun hv189 => ?_)
      refine rfE h ?_
      clear h
      intro r190 e_r190 h
      rw [e_r190]
      refine gdE h ?_
      clear h
      intro hk192 h
      refine bnE h ?_
      clear h
      intro p191 e_p191 h
      refine x_callX (pc := 388) (As := []) (rest := [V a3]) (mc' := 0) (ms' := 0) (dK D_Law_changes_3 37 rfl) Q_Law_55 sx_AL_size (fitK rfl) (isK_at (Z := (S, L)) (ci := 13) hk192) rfl (leK rfl) (bdk hb) (bdn hb) (tg_AL_size  e_p191) (kxI' (fun h_p191 => ?_))
      refine gdE h ?_
      clear h
      intro hp193 h
      refine wx_irem (pc := 391) (dK D_Law_changes_3 38 rfl) ha3 h_p191 hp193 ?_
      refine nmE h ?_
      clear h
      intro v194 e_v194 h
      refine wtop e_v194 ?_
      refine x_istore (pc := 392) (ls2 := [(9, V v194), (0, .ref 0), (1, .ref c1), (2, V a2), (3, V a3), (4, V a4), (5, V a5), (6, V a6), (7, c7), (8, V a8)]) (dK D_Law_changes_3 39 rfl) (ltK rfl) rfl ?_
      refine x_aloadn (pc := 394) (i0 := 1) (j := 2) (dK D_Law_changes_3 40 rfl) rfl rfl ?_
      refine bnE h ?_
      clear h
      intro v195 e_v195 h
      refine wx_getV (pc := 395) (ci := 12) (f := 5) e_v195 (dK D_Law_changes_3 41 rfl) q_778 (ltK rfl) (ltK rfl) (fun hv195 => ?_)
      refine x_iload (pc := 398) (j := 0) (dK D_Law_changes_3 42 rfl) rfl ?_
      refine rfE h ?_
      clear h
      intro r196 e_r196 h
      rw [e_r196]
      refine gdE h ?_
      clear h
      intro hk198 h
      refine bnE h ?_
      clear h
      intro p197 e_p197 h
      refine x_callX (pc := 400) (As := [V v194]) (rest := []) (mc' := 0) (ms' := 0) (dK D_Law_changes_3 43 rfl) Q_Law_69 sx_AL_get (fitK rfl) (isK_at (Z := (S, L)) (ci := 13) hk198) rfl (leK rfl) (bdk hb) (bdn hb) (tg_AL_get (Vn_in e_v194) e_p197) (kxR (fun h_p197 => ?_))
      refine rfE h ?_
      clear h
      intro r199 e_r199 h
      rw [e_r199]
      refine gdE h ?_
      clear h
      intro hk200 h
      refine x_cast (pc := 403) (dK D_Law_changes_3 44 rfl) q_1033 (isK_at (Z := (S, L)) (ci := 11) hk200) ?_
      refine x_astore (pc := 406) (ls2 := [(10, .ref r199), (9, V v194), (0, .ref 0), (1, .ref c1), (2, V a2), (3, V a3), (4, V a4), (5, V a5), (6, V a6), (7, c7), (8, V a8)]) (dK D_Law_changes_3 45 rfl) (ltK rfl) rfl ?_
      refine x_aload (pc := 408) (j := 0) (dK D_Law_changes_3 46 rfl) rfl ?_
      refine bnE h ?_
      clear h
      intro v201 e_v201 h
      refine wx_getI (pc := 410) (ci := 11) (f := 5) e_v201 (dK D_Law_changes_3 47 rfl) q_889 (ltK rfl) (ltK rfl) ?_
      refine wx_if_le (pc := 413) (t := 429) (dK D_Law_changes_3 48 rfl) rfl (vI_at e_v201).2 (fun hc213 => ?_) (fun hc213 => ?_)
      · replace h := ifP h hc213
        refine wx_iconst (pc := 429) (dK D_Law_changes_4 5 rfl) ?_
        refine x_weak (ls' := [(0, .ref 0), (9, V v194), (10, .ref r199)]) (sbc 2 rfl (sbc 1 rfl (sbc 0 rfl sbn))) ?_
        exact tj2_Law_changes_430 (Vn_in e_v194) (inRk rfl) h hb
      · replace h := ifN h hc213
        refine x_aloadn (pc := 416) (i0 := 1) (j := 3) (dK D_Law_changes_3 49 rfl) rfl rfl ?_
        refine x_aload (pc := 417) (j := 0) (dK D_Law_changes_4 0 rfl) rfl ?_
        refine gdE h ?_
        clear h
        intro hk211 h
        refine bnE h ?_
        clear h
        intro p210 e_p210 h
        refine x_callX (pc := 419) (As := [.ref r199]) (rest := []) (mc' := 0) (ms' := 0) (dK D_Law_changes_4 1 rfl) Q_Law_396 sx_LP_shut (fitK rfl) (isK_at (Z := (S, L)) (ci := 12) hk211) rfl (leK rfl) (bdk hb) (bdn hb) (tg_LP_shut  e_p210) (kxB' ?_)
        refine wx_ifB_ne (pc := 422) (b := p210) (t := 429) (dK D_Law_changes_4 2 rfl) rfl (fun hc212 => ?_) (fun hc212 => ?_)
        · replace h := ifP h hc212
          refine wx_iconst (pc := 429) (dK D_Law_changes_4 5 rfl) ?_
          refine x_weak (ls' := [(0, .ref 0), (9, V v194), (10, .ref r199)]) (sbc 2 rfl (sbc 1 rfl (sbc 0 rfl sbn))) ?_
          exact tj2_Law_changes_430 (Vn_in e_v194) (inRk rfl) h hb
        · replace h := ifN h hc212
          refine wx_iconst (pc := 425) (dK D_Law_changes_4 3 rfl) ?_
          refine x_goto (pc := 426) (tgt := 430) (dK D_Law_changes_4 4 rfl) rfl ?_
          refine x_weak (ls' := [(0, .ref 0), (9, V v194), (10, .ref r199)]) (sbc 2 rfl (sbc 1 rfl (sbc 0 rfl sbn))) ?_
          exact tj2_Law_changes_430 (Vn_in e_v194) (inRk rfl) h hb
def jf2_Law_changes_328 (c7 : Value) (a8 : Int) (st0 : Int) (S : St) (L : List PC) : Option ((Int × LZ) × Nat × Nat) := if st0 = 0 then (bnO (fn_FP_take 0 a8 S) fun p219 => if p219.1 = 0 then (adC 1 6 (if (bi p219.2.1) = st0 then (if st0 = 0 then (some ((0, (p219.2.2, L)), 0, 0)) else (some ((1, (p219.2.2, L)), 0, 0))) else (some (((-1), (p219.2.2, L)), 0, 0)))) else none) else (rfB c7 fun r222 => bnO (pf L r222 11 5 (V 0)) fun L223 => bnO (fn_FP_take 0 a8 S) fun p224 => if p224.1 = 0 then (adC 1 6 (if (bi p224.2.1) = st0 then (if st0 = 0 then (some ((0, (p224.2.2, L223)), 0, 0)) else (some ((1, (p224.2.2, L223)), 0, 0))) else (some (((-1), (p224.2.2, L223)), 0, 0)))) else none)
theorem tj2_Law_changes_328 {sc : SC} {c7 : Value} (hc7 : c7 = .null ∨ ∃ b, c7 = .ref b) {a8 : Int} (ha8 : inR a8) {st0 : Int} (hst0 : inR st0) {S : St} {L : List PC} {q : (Int × LZ) × Nat × Nat} (h : jf2_Law_changes_328 c7 a8 st0 S L = some q) {mc ms k n : Nat} (hb : Bd k n mc ms q) : GX sc M_Law_changes mc ms 328 [(0, .ref 0), (7, c7), (8, V a8)] [V st0] (wz (S, L)) k n (KXI q.1.1 q.1.2) := by
  unfold jf2_Law_changes_328 at h
  refine x_istore (pc := 328) (ls2 := [(9, V st0), (0, .ref 0), (7, c7), (8, V a8)]) (dK D_Law_changes_3 8 rfl) (ltK rfl) rfl ?_
  refine x_iload (pc := 330) (j := 0) (dK D_Law_changes_3 9 rfl) rfl ?_
  refine wx_if_eq (pc := 332) (t := 341) (dK D_Law_changes_3 10 rfl) rfl hst0 (fun hc227 => ?_) (fun hc227 => ?_)
  · replace h := ifP h hc227
    refine x_aloadn (pc := 341) (i0 := 0) (j := 1) (dK D_Law_changes_3 14 rfl) rfl rfl ?_
    refine x_iload (pc := 342) (j := 3) (dK D_Law_changes_3 15 rfl) rfl ?_
    refine bnE h ?_
    clear h
    intro p219 e_p219 h
    refine gdE h ?_
    clear h
    intro hz_p219 h
    obtain ⟨yp219, h9, e9⟩ := adE2 h
    clear h
    subst e9
    have h := h9
    clear h9
    have hk1 := bd1 hb
    have hn1 := bd2 hb
    replace hb := bdA hb
    refine x_callX (pc := 344) (As := [V a8]) (rest := []) (mc' := 1) (ms' := 6) (dK D_Law_changes_3 16 rfl) Q_Law_402 sx_FP_take (fitK rfl) (isK_at (Z := (S, L)) (ci := 10) isK0) rfl (leK rfl) hk1 hn1 (clTB hz_p219 (fun E => tf_FP_take (X := xz L) rfl xz_hc ha8 e_p219)) (kxB' ?_)
    refine x_iload (pc := 347) (j := 0) (dK D_Law_changes_3 17 rfl) rfl ?_
    refine wx_icmp_eq (pc := 349) (t := 356) (dK D_Law_changes_3 18 rfl) rfl (bi_in _) hst0 (fun hc221 => ?_) (fun hc221 => ?_)
    · replace h := ifP h hc221
      refine x_iload (pc := 356) (j := 0) (dK D_Law_changes_3 21 rfl) rfl ?_
      refine wx_if_eq (pc := 358) (t := 365) (dK D_Law_changes_3 22 rfl) rfl hst0 (fun hc220 => ?_) (fun hc220 => ?_)
      · replace h := ifP h hc220
        refine wx_iconst (pc := 365) (dK D_Law_changes_3 25 rfl) ?_
        obtain rfl := Option.some.inj h
        exact wk_iretI (pc := 366) (dK D_Law_changes_3 26 rfl) rfl (bdk hb) (bdn hb) ⟨rfl, (inRk rfl), rfl⟩
      · replace h := ifN h hc220
        refine wx_iconst (pc := 361) (dK D_Law_changes_3 23 rfl) ?_
        refine x_goto (pc := 362) (tgt := 366) (dK D_Law_changes_3 24 rfl) rfl ?_
        obtain rfl := Option.some.inj h
        exact wk_iretI (pc := 366) (dK D_Law_changes_3 26 rfl) rfl (bdk hb) (bdn hb) ⟨rfl, (inRk rfl), rfl⟩
    · replace h := ifN h hc221
      refine wx_iconst (pc := 352) (dK D_Law_changes_3 19 rfl) ?_
      refine x_goto (pc := 353) (tgt := 366) (dK D_Law_changes_3 20 rfl) rfl ?_
      obtain rfl := Option.some.inj h
      exact wk_iretI (pc := 366) (dK D_Law_changes_3 26 rfl) rfl (bdk hb) (bdn hb) ⟨rfl, (inRk rfl), rfl⟩
  · replace h := ifN h hc227
    refine x_aloadV (pc := 335) (j := 2) hc7 (dK D_Law_changes_3 11 rfl) rfl ?_
    refine wx_iconst (pc := 337) (dK D_Law_changes_3 12 rfl) ?_
    refine rfE h ?_
    clear h
    intro r222 e_r222 h
    rw [e_r222]
    refine bnE h ?_
    clear h
    intro L223 e_L223 h
    refine wx_put (Z := (S, L)) (pc := 338) (ci := 11) (f := 5) e_L223 (dK D_Law_changes_3 13 rfl) q_889 (ltK rfl) (ltK rfl) rfl okInt ?_
    refine x_aloadn (pc := 341) (i0 := 0) (j := 1) (dK D_Law_changes_3 14 rfl) rfl rfl ?_
    refine x_iload (pc := 342) (j := 3) (dK D_Law_changes_3 15 rfl) rfl ?_
    refine bnE h ?_
    clear h
    intro p224 e_p224 h
    refine gdE h ?_
    clear h
    intro hz_p224 h
    obtain ⟨yp224, h9, e9⟩ := adE2 h
    clear h
    subst e9
    have h := h9
    clear h9
    have hk1 := bd1 hb
    have hn1 := bd2 hb
    replace hb := bdA hb
    refine x_callX (pc := 344) (As := [V a8]) (rest := []) (mc' := 1) (ms' := 6) (dK D_Law_changes_3 16 rfl) Q_Law_402 sx_FP_take (fitK rfl) (isK_at (Z := (S, L223)) (ci := 10) isK0) rfl (leK rfl) hk1 hn1 (clTB hz_p224 (fun E => tf_FP_take (X := xz L223) rfl xz_hc ha8 e_p224)) (kxB' ?_)
    refine x_iload (pc := 347) (j := 0) (dK D_Law_changes_3 17 rfl) rfl ?_
    refine wx_icmp_eq (pc := 349) (t := 356) (dK D_Law_changes_3 18 rfl) rfl (bi_in _) hst0 (fun hc226 => ?_) (fun hc226 => ?_)
    · replace h := ifP h hc226
      refine x_iload (pc := 356) (j := 0) (dK D_Law_changes_3 21 rfl) rfl ?_
      refine wx_if_eq (pc := 358) (t := 365) (dK D_Law_changes_3 22 rfl) rfl hst0 (fun hc225 => ?_) (fun hc225 => ?_)
      · replace h := ifP h hc225
        refine wx_iconst (pc := 365) (dK D_Law_changes_3 25 rfl) ?_
        obtain rfl := Option.some.inj h
        exact wk_iretI (pc := 366) (dK D_Law_changes_3 26 rfl) rfl (bdk hb) (bdn hb) ⟨rfl, (inRk rfl), rfl⟩
      · replace h := ifN h hc225
        refine wx_iconst (pc := 361) (dK D_Law_changes_3 23 rfl) ?_
        refine x_goto (pc := 362) (tgt := 366) (dK D_Law_changes_3 24 rfl) rfl ?_
        obtain rfl := Option.some.inj h
        exact wk_iretI (pc := 366) (dK D_Law_changes_3 26 rfl) rfl (bdk hb) (bdn hb) ⟨rfl, (inRk rfl), rfl⟩
    · replace h := ifN h hc226
      refine wx_iconst (pc := 352) (dK D_Law_changes_3 19 rfl) ?_
      refine x_goto (pc := 353) (tgt := 366) (dK D_Law_changes_3 20 rfl) rfl ?_
      obtain rfl := Option.some.inj h
      exact wk_iretI (pc := 366) (dK D_Law_changes_3 26 rfl) rfl (bdk hb) (bdn hb) ⟨rfl, (inRk rfl), rfl⟩
def jf2_Law_changes_250 (a5 : Int) (a9 : Int) (c10 : Nat) (st0 : Int) (S : St) (L : List PC) : Option ((Int × LZ) × Nat × Nat) := if st0 = 0 then (bnO (pf L c10 11 5 (V a5)) fun L266 => bnO (fn_FP_lay 0 a9 a5 S) fun p267 => if p267.1 = 0 then (adC 1 6 (if p267.2.1 = st0 then (if st0 = 0 then (some ((1, (p267.2.2, L266)), 0, 0)) else (some ((0, (p267.2.2, L266)), 0, 0))) else (some (((-1), (p267.2.2, L266)), 0, 0)))) else none) else (bnO (fn_FP_lay 0 a9 a5 S) fun p263 => if p263.1 = 0 then (adC 1 6 (if p263.2.1 = st0 then (if st0 = 0 then (some ((1, (p263.2.2, L)), 0, 0)) else (some ((0, (p263.2.2, L)), 0, 0))) else (some (((-1), (p263.2.2, L)), 0, 0)))) else none)
theorem tj2_Law_changes_250 {sc : SC} {a5 : Int} (ha5 : inR a5) {a9 : Int} (ha9 : inR a9) {c10 : Nat} {st0 : Int} (hst0 : inR st0) {S : St} {L : List PC} {q : (Int × LZ) × Nat × Nat} (h : jf2_Law_changes_250 a5 a9 c10 st0 S L = some q) {mc ms k n : Nat} (hb : Bd k n mc ms q) : GX sc M_Law_changes mc ms 250 [(0, .ref 0), (5, V a5), (9, V a9), (10, .ref c10)] [V st0] (wz (S, L)) k n (KXI q.1.1 q.1.2) := by
  unfold jf2_Law_changes_250 at h
  refine x_istore (pc := 250) (ls2 := [(11, V st0), (0, .ref 0), (5, V a5), (9, V a9), (10, .ref c10)]) (dK D_Law_changes_2 22 rfl) (ltK rfl) rfl ?_
  refine x_iload (pc := 252) (j := 0) (dK D_Law_changes_2 23 rfl) rfl ?_
  refine wx_if_ne (pc := 254) (t := 264) (dK D_Law_changes_2 24 rfl) rfl hst0 (fun hc270 => ?_) (fun hc270 => ?_)
  · replace h := ifN h hc270
    refine x_aloadn (pc := 264) (i0 := 0) (j := 1) (dK D_Law_changes_2 28 rfl) rfl rfl ?_
    refine x_iload (pc := 265) (j := 3) (dK D_Law_changes_2 29 rfl) rfl ?_
    refine x_iload (pc := 267) (j := 2) (dK D_Law_changes_2 30 rfl) rfl ?_
    refine bnE h ?_
    clear h
    intro p263 e_p263 h
    refine gdE h ?_
    clear h
    intro hz_p263 h
    obtain ⟨yp263, h9, e9⟩ := adE2 h
    clear h
    subst e9
    have h := h9
    clear h9
    have hk1 := bd1 hb
    have hn1 := bd2 hb
    replace hb := bdA hb
    refine x_callX (pc := 269) (As := [V a9, V a5]) (rest := []) (mc' := 1) (ms' := 6) (dK D_Law_changes_2 31 rfl) Q_Law_399 sx_FP_lay (fitK rfl) (isK_at (Z := (S, L)) (ci := 10) isK0) rfl (leK rfl) hk1 hn1 (clTI hz_p263 (fun E => tf_FP_lay (X := xz L) rfl xz_hc ha9 ha5 e_p263)) (kxI' (fun h_p263 => ?_))
    refine x_iload (pc := 272) (j := 0) (dK D_Law_changes_2 32 rfl) rfl ?_
    refine wx_icmp_eq (pc := 274) (t := 281) (dK D_Law_changes_2 33 rfl) rfl h_p263 hst0 (fun hc265 => ?_) (fun hc265 => ?_)
    · replace h := ifP h hc265
      refine x_iload (pc := 281) (j := 0) (dK D_Law_changes_2 36 rfl) rfl ?_
      refine wx_if_ne (pc := 283) (t := 290) (dK D_Law_changes_2 37 rfl) rfl hst0 (fun hc264 => ?_) (fun hc264 => ?_)
      · replace h := ifN h hc264
        refine wx_iconst (pc := 290) (dK D_Law_changes_2 40 rfl) ?_
        obtain rfl := Option.some.inj h
        exact wk_iretI (pc := 291) (dK D_Law_changes_2 41 rfl) rfl (bdk hb) (bdn hb) ⟨rfl, (inRk rfl), rfl⟩
      · replace h := ifP h hc264
        refine wx_iconst (pc := 286) (dK D_Law_changes_2 38 rfl) ?_
        refine x_goto (pc := 287) (tgt := 291) (dK D_Law_changes_2 39 rfl) rfl ?_
        obtain rfl := Option.some.inj h
        exact wk_iretI (pc := 291) (dK D_Law_changes_2 41 rfl) rfl (bdk hb) (bdn hb) ⟨rfl, (inRk rfl), rfl⟩
    · replace h := ifN h hc265
      refine wx_iconst (pc := 277) (dK D_Law_changes_2 34 rfl) ?_
      refine x_goto (pc := 278) (tgt := 291) (dK D_Law_changes_2 35 rfl) rfl ?_
      obtain rfl := Option.some.inj h
      exact wk_iretI (pc := 291) (dK D_Law_changes_2 41 rfl) rfl (bdk hb) (bdn hb) ⟨rfl, (inRk rfl), rfl⟩
  · replace h := ifP h hc270
    refine x_aload (pc := 257) (j := 4) (dK D_Law_changes_2 25 rfl) rfl ?_
    refine x_iload (pc := 259) (j := 2) (dK D_Law_changes_2 26 rfl) rfl ?_
    refine bnE h ?_
    clear h
    intro L266 e_L266 h
    refine wx_put (Z := (S, L)) (pc := 261) (ci := 11) (f := 5) e_L266 (dK D_Law_changes_2 27 rfl) q_889 (ltK rfl) (ltK rfl) rfl okInt ?_
    refine x_aloadn (pc := 264) (i0 := 0) (j := 1) (dK D_Law_changes_2 28 rfl) rfl rfl ?_
    refine x_iload (pc := 265) (j := 3) (dK D_Law_changes_2 29 rfl) rfl ?_
    refine x_iload (pc := 267) (j := 2) (dK D_Law_changes_2 30 rfl) rfl ?_
    refine bnE h ?_
    clear h
    intro p267 e_p267 h
    refine gdE h ?_
    clear h
    intro hz_p267 h
    obtain ⟨yp267, h9, e9⟩ := adE2 h
    clear h
    subst e9
    have h := h9
    clear h9
    have hk1 := bd1 hb
    have hn1 := bd2 hb
    replace hb := bdA hb
    refine x_callX (pc := 269) (As := [V a9, V a5]) (rest := []) (mc' := 1) (ms' := 6) (dK D_Law_changes_2 31 rfl) Q_Law_399 sx_FP_lay (fitK rfl) (isK_at (Z := (S, L266)) (ci := 10) isK0) rfl (leK rfl) hk1 hn1 (clTI hz_p267 (fun E => tf_FP_lay (X := xz L266) rfl xz_hc ha9 ha5 e_p267)) (kxI' (fun h_p267 => ?_))
    refine x_iload (pc := 272) (j := 0) (dK D_Law_changes_2 32 rfl) rfl ?_
    refine wx_icmp_eq (pc := 274) (t := 281) (dK D_Law_changes_2 33 rfl) rfl h_p267 hst0 (fun hc269 => ?_) (fun hc269 => ?_)
    · replace h := ifP h hc269
      refine x_iload (pc := 281) (j := 0) (dK D_Law_changes_2 36 rfl) rfl ?_
      refine wx_if_ne (pc := 283) (t := 290) (dK D_Law_changes_2 37 rfl) rfl hst0 (fun hc268 => ?_) (fun hc268 => ?_)
      · replace h := ifN h hc268
        refine wx_iconst (pc := 290) (dK D_Law_changes_2 40 rfl) ?_
        obtain rfl := Option.some.inj h
        exact wk_iretI (pc := 291) (dK D_Law_changes_2 41 rfl) rfl (bdk hb) (bdn hb) ⟨rfl, (inRk rfl), rfl⟩
      · replace h := ifP h hc268
        refine wx_iconst (pc := 286) (dK D_Law_changes_2 38 rfl) ?_
        refine x_goto (pc := 287) (tgt := 291) (dK D_Law_changes_2 39 rfl) rfl ?_
        obtain rfl := Option.some.inj h
        exact wk_iretI (pc := 291) (dK D_Law_changes_2 41 rfl) rfl (bdk hb) (bdn hb) ⟨rfl, (inRk rfl), rfl⟩
    · replace h := ifN h hc269
      refine wx_iconst (pc := 277) (dK D_Law_changes_2 34 rfl) ?_
      refine x_goto (pc := 278) (tgt := 291) (dK D_Law_changes_2 35 rfl) rfl ?_
      obtain rfl := Option.some.inj h
      exact wk_iretI (pc := 291) (dK D_Law_changes_2 41 rfl) rfl (bdk hb) (bdn hb) ⟨rfl, (inRk rfl), rfl⟩
def jf2_Law_changes_178 (c1 : Nat) (a2 : Int) (a3 : Int) (a4 : Int) (a5 : Int) (a6 : Int) (c7 : Value) (a8 : Int) (S : St) (L : List PC) : Option ((Int × LZ) × Nat × Nat) := if 6 ≤ a2 then (if a2 = 6 then (nlB c7 (jf2_Law_changes_367 c1 a2 a3 a4 a5 a6 c7 a8 S L) (rfB c7 fun r217 => bnO (gfI L r217 11 5) fun v218 => if v218 ≤ 0 then (jf2_Law_changes_328 (.ref r217) a8 0 S L) else (bnO (gfI L r217 11 5) fun v228 => if isK L c1 12 = true then (bnO (gn_LP_isShut c1 v228 S L) fun p229 => if p229 = true then (jf2_Law_changes_328 (.ref r217) a8 0 S L) else (jf2_Law_changes_328 (.ref r217) a8 1 S L)) else none))) else (jf2_Law_changes_367 c1 a2 a3 a4 a5 a6 c7 a8 S L)) else (bnO (gfV L c1 12 5) fun v234 => rfB v234 fun r235 => if isK L r235 13 = true then (bnO (gn_AL_isEmpty r235 S L) fun p236 => if p236 = true then (if a2 = 6 then (nlB c7 (jf2_Law_changes_367 c1 a2 a3 a4 a5 a6 c7 a8 S L) (rfB c7 fun r241 => bnO (gfI L r241 11 5) fun v242 => if v242 ≤ 0 then (jf2_Law_changes_328 (.ref r241) a8 0 S L) else (bnO (gfI L r241 11 5) fun v243 => if isK L c1 12 = true then (bnO (gn_LP_isShut c1 v243 S L) fun p244 => if p244 = true then (jf2_Law_changes_328 (.ref r241) a8 0 S L) else (jf2_Law_changes_328 (.ref r241) a8 1 S L)) else none))) else (jf2_Law_changes_367 c1 a2 a3 a4 a5 a6 c7 a8 S L)) else (bnO (gfV L c1 12 5) fun v249 => rfB v249 fun r250 => if isK L r250 13 = true then (bnO (gn_AL_size r250 S L) fun p251 => if 0 < p251 then (nm (wr (a3.tmod p251)) fun v254 => bnO (gfV L c1 12 5) fun v255 => rfB v255 fun r256 => if isK L r256 13 = true then (bnO (gn_AL_get r256 v254 S L) fun p257 => rfB p257 fun r259 => if isK L r259 11 = true then (if isK L c1 12 = true then (bnO (gn_LP_storyReason c1 r259 a5 S L) fun p261 => adC p261.2.1 p261.2.2 (if p261.1.1 = 1 then (jf2_Law_changes_250 a5 v254 r259 p261.1.1 p261.1.2.1 p261.1.2.2) else (if isK p261.1.2.2 c1 12 = true then (bnO (gn_LP_shut c1 r259 p261.1.2.1 p261.1.2.2) fun p271 => if p271 = true then (jf2_Law_changes_250 a5 v254 r259 2 p261.1.2.1 p261.1.2.2) else (jf2_Law_changes_250 a5 v254 r259 p261.1.1 p261.1.2.1 p261.1.2.2)) else none))) else none) else none) else none) else none) else none)) else none)
theorem tj2_Law_changes_178 {sc : SC} {c1 : Nat} {a2 : Int} (ha2 : inR a2) {a3 : Int} (ha3 : inR a3) {a4 : Int} (ha4 : inR a4) {a5 : Int} (ha5 : inR a5) {a6 : Int} (ha6 : inR a6) {c7 : Value} (hc7 : c7 = .null ∨ ∃ b, c7 = .ref b) {a8 : Int} (ha8 : inR a8) {S : St} {L : List PC} {q : (Int × LZ) × Nat × Nat} (h : jf2_Law_changes_178 c1 a2 a3 a4 a5 a6 c7 a8 S L = some q) {mc ms k n : Nat} (hb : Bd k n mc ms q) : GX sc M_Law_changes mc ms 178 [(0, .ref 0), (1, .ref c1), (2, V a2), (3, V a3), (4, V a4), (5, V a5), (6, V a6), (7, c7), (8, V a8)] [] (wz (S, L)) k n (KXI q.1.1 q.1.2) := by
  unfold jf2_Law_changes_178 at h
  refine x_iloadn (pc := 178) (i0 := 2) (j := 2) (dK D_Law_changes_1 38 rfl) rfl rfl ?_
  refine wx_bipush (pc := 179) (dK D_Law_changes_1 39 rfl) rfl ?_
  refine wx_icmp_ge (pc := 181) (t := 292) (dK D_Law_changes_1 40 rfl) rfl ha2 (inRk rfl) (fun hc275 => ?_) (fun hc275 => ?_)
  · replace h := ifP h hc275
    refine x_iloadn (pc := 292) (i0 := 2) (j := 2) (dK D_Law_changes_2 42 rfl) rfl rfl ?_
    refine wx_bipush (pc := 293) (dK D_Law_changes_2 43 rfl) rfl ?_
    refine wx_icmp_ne (pc := 295) (t := 367) (dK D_Law_changes_2 44 rfl) rfl ha2 (inRk rfl) (fun hc233 => ?_) (fun hc233 => ?_)
    · replace h := ifN h hc233
      exact tj2_Law_changes_367 ha2 ha3 ha4 ha5 ha6 hc7 ha8 h hb
    · replace h := ifP h hc233
      refine x_aloadV (pc := 298) (j := 7) hc7 (dK D_Law_changes_2 45 rfl) rfl ?_
      refine nlE h ?_ ?_
      · clear h
        intro hc215 h
        refine x_ifnull (pc := 300) (tgt := 367) hc7 (dK D_Law_changes_2 46 rfl) rfl (fun _ => ?_) (fun e => absurd hc215 e)
        exact tj2_Law_changes_367 ha2 ha3 ha4 ha5 ha6 hc7 ha8 h hb
      · clear h
        intro hc216 h
        refine x_ifnull (pc := 300) (tgt := 367) hc7 (dK D_Law_changes_2 46 rfl) rfl (fun e => absurd e hc216) (fun _ => ?_)
        refine x_aloadV (pc := 303) (j := 7) hc7 (dK D_Law_changes_2 47 rfl) rfl ?_
        refine rfE h ?_
        clear h
        intro r217 e_r217 h
        rw [e_r217]
        refine bnE h ?_
        clear h
        intro v218 e_v218 h
        refine wx_getI (pc := 305) (ci := 11) (f := 5) e_v218 (dK D_Law_changes_2 48 rfl) q_889 (ltK rfl) (ltK rfl) ?_
        refine wx_if_le (pc := 308) (t := 327) (dK D_Law_changes_2 49 rfl) rfl (vI_at e_v218).2 (fun hc232 => ?_) (fun hc232 => ?_)
        · replace h := ifP h hc232
          refine wx_iconst (pc := 327) (dK D_Law_changes_3 7 rfl) ?_
          refine x_weak (ls' := [(0, .ref 0), (7, .ref r217), (8, V a8)]) (sbc 0 rfl (sbc 7 rfl (sbc 8 rfl sbn))) ?_
          exact tj2_Law_changes_328 (.inr ⟨_, rfl⟩) ha8 (inRk rfl) h hb
        · replace h := ifN h hc232
          refine x_aloadn (pc := 311) (i0 := 1) (j := 1) (dK D_Law_changes_3 0 rfl) rfl rfl ?_
          refine x_aload (pc := 312) (j := 7) (dK D_Law_changes_3 1 rfl) rfl ?_
          refine bnE h ?_
          clear h
          intro v228 e_v228 h
          refine wx_getI (pc := 314) (ci := 11) (f := 5) e_v228 (dK D_Law_changes_3 2 rfl) q_889 (ltK rfl) (ltK rfl) ?_
          refine gdE h ?_
          clear h
          intro hk230 h
          refine bnE h ?_
          clear h
          intro p229 e_p229 h
          refine x_callX (pc := 317) (As := [V v228]) (rest := []) (mc' := 0) (ms' := 0) (dK D_Law_changes_3 3 rfl) Q_Law_325 sx_LP_isShut (fitK rfl) (isK_at (Z := (S, L)) (ci := 12) hk230) rfl (leK rfl) (bdk hb) (bdn hb) (tg_LP_isShut (vI_at e_v228).2 e_p229) (kxB' ?_)
          refine wx_ifB_ne (pc := 320) (b := p229) (t := 327) (dK D_Law_changes_3 4 rfl) rfl (fun hc231 => ?_) (fun hc231 => ?_)
          · replace h := ifP h hc231
            refine wx_iconst (pc := 327) (dK D_Law_changes_3 7 rfl) ?_
            refine x_weak (ls' := [(0, .ref 0), (7, .ref r217), (8, V a8)]) (sbc 0 rfl (sbc 7 rfl (sbc 8 rfl sbn))) ?_
            exact tj2_Law_changes_328 (.inr ⟨_, rfl⟩) ha8 (inRk rfl) h hb
          · replace h := ifN h hc231
            refine wx_iconst (pc := 323) (dK D_Law_changes_3 5 rfl) ?_
            refine x_goto (pc := 324) (tgt := 328) (dK D_Law_changes_3 6 rfl) rfl ?_
            refine x_weak (ls' := [(0, .ref 0), (7, .ref r217), (8, V a8)]) (sbc 0 rfl (sbc 7 rfl (sbc 8 rfl sbn))) ?_
            exact tj2_Law_changes_328 (.inr ⟨_, rfl⟩) ha8 (inRk rfl) h hb
  · replace h := ifN h hc275
    refine x_aloadn (pc := 184) (i0 := 1) (j := 1) (dK D_Law_changes_1 41 rfl) rfl rfl ?_
    refine bnE h ?_
    clear h
    intro v234 e_v234 h
    refine wx_getV (pc := 185) (ci := 12) (f := 5) e_v234 (dK D_Law_changes_1 42 rfl) q_778 (ltK rfl) (ltK rfl) (fun hv234 => ?_)
    refine rfE h ?_
    clear h
    intro r235 e_r235 h
    rw [e_r235]
    refine gdE h ?_
    clear h
    intro hk237 h
    refine bnE h ?_
    clear h
    intro p236 e_p236 h
    refine x_callX (pc := 188) (As := []) (rest := []) (mc' := 0) (ms' := 0) (dK D_Law_changes_1 43 rfl) Q_Law_285 sx_AL_isEmpty (fitK rfl) (isK_at (Z := (S, L)) (ci := 13) hk237) rfl (leK rfl) (bdk hb) (bdn hb) (tg_AL_isEmpty  e_p236) (kxB' ?_)
    refine wx_ifB_ne (pc := 191) (b := p236) (t := 292) (dK D_Law_changes_1 44 rfl) rfl (fun hc238 => ?_) (fun hc238 => ?_)
    · replace h := ifP h hc238
      refine x_iloadn (pc := 292) (i0 := 2) (j := 2) (dK D_Law_changes_2 42 rfl) rfl rfl ?_
      refine wx_bipush (pc := 293) (dK D_Law_changes_2 43 rfl) rfl ?_
      refine wx_icmp_ne (pc := 295) (t := 367) (dK D_Law_changes_2 44 rfl) rfl ha2 (inRk rfl) (fun hc248 => ?_) (fun hc248 => ?_)
      · replace h := ifN h hc248
        exact tj2_Law_changes_367 ha2 ha3 ha4 ha5 ha6 hc7 ha8 h hb
      · replace h := ifP h hc248
        refine x_aloadV (pc := 298) (j := 7) hc7 (dK D_Law_changes_2 45 rfl) rfl ?_
        refine nlE h ?_ ?_
        · clear h
          intro hc239 h
          refine x_ifnull (pc := 300) (tgt := 367) hc7 (dK D_Law_changes_2 46 rfl) rfl (fun _ => ?_) (fun e => absurd hc239 e)
          exact tj2_Law_changes_367 ha2 ha3 ha4 ha5 ha6 hc7 ha8 h hb
        · clear h
          intro hc240 h
          refine x_ifnull (pc := 300) (tgt := 367) hc7 (dK D_Law_changes_2 46 rfl) rfl (fun e => absurd e hc240) (fun _ => ?_)
          refine x_aloadV (pc := 303) (j := 7) hc7 (dK D_Law_changes_2 47 rfl) rfl ?_
          refine rfE h ?_
          clear h
          intro r241 e_r241 h
          rw [e_r241]
          refine bnE h ?_
          clear h
          intro v242 e_v242 h
          refine wx_getI (pc := 305) (ci := 11) (f := 5) e_v242 (dK D_Law_changes_2 48 rfl) q_889 (ltK rfl) (ltK rfl) ?_
          refine wx_if_le (pc := 308) (t := 327) (dK D_Law_changes_2 49 rfl) rfl (vI_at e_v242).2 (fun hc247 => ?_) (fun hc247 => ?_)
          · replace h := ifP h hc247
            refine wx_iconst (pc := 327) (dK D_Law_changes_3 7 rfl) ?_
            refine x_weak (ls' := [(0, .ref 0), (7, .ref r241), (8, V a8)]) (sbc 0 rfl (sbc 7 rfl (sbc 8 rfl sbn))) ?_
            exact tj2_Law_changes_328 (.inr ⟨_, rfl⟩) ha8 (inRk rfl) h hb
          · replace h := ifN h hc247
            refine x_aloadn (pc := 311) (i0 := 1) (j := 1) (dK D_Law_changes_3 0 rfl) rfl rfl ?_
            refine x_aload (pc := 312) (j := 7) (dK D_Law_changes_3 1 rfl) rfl ?_
            refine bnE h ?_
            clear h
            intro v243 e_v243 h
            refine wx_getI (pc := 314) (ci := 11) (f := 5) e_v243 (dK D_Law_changes_3 2 rfl) q_889 (ltK rfl) (ltK rfl) ?_
            refine gdE h ?_
            clear h
            intro hk245 h
            refine bnE h ?_
            clear h
            intro p244 e_p244 h
            refine x_callX (pc := 317) (As := [V v243]) (rest := []) (mc' := 0) (ms' := 0) (dK D_Law_changes_3 3 rfl) Q_Law_325 sx_LP_isShut (fitK rfl) (isK_at (Z := (S, L)) (ci := 12) hk245) rfl (leK rfl) (bdk hb) (bdn hb) (tg_LP_isShut (vI_at e_v243).2 e_p244) (kxB' ?_)
            refine wx_ifB_ne (pc := 320) (b := p244) (t := 327) (dK D_Law_changes_3 4 rfl) rfl (fun hc246 => ?_) (fun hc246 => ?_)
            · replace h := ifP h hc246
              refine wx_iconst (pc := 327) (dK D_Law_changes_3 7 rfl) ?_
              refine x_weak (ls' := [(0, .ref 0), (7, .ref r241), (8, V a8)]) (sbc 0 rfl (sbc 7 rfl (sbc 8 rfl sbn))) ?_
              exact tj2_Law_changes_328 (.inr ⟨_, rfl⟩) ha8 (inRk rfl) h hb
            · replace h := ifN h hc246
              refine wx_iconst (pc := 323) (dK D_Law_changes_3 5 rfl) ?_
              refine x_goto (pc := 324) (tgt := 328) (dK D_Law_changes_3 6 rfl) rfl ?_
              refine x_weak (ls' := [(0, .ref 0), (7, .ref r241), (8, V a8)]) (sbc 0 rfl (sbc 7 rfl (sbc 8 rfl sbn))) ?_
              exact tj2_Law_changes_328 (.inr ⟨_, rfl⟩) ha8 (inRk rfl) h hb
    · replace h := ifN h hc238
      refine x_iloadn (pc := 194) (i0 := 3) (j := 3) (dK D_Law_changes_1 45 rfl) rfl rfl ?_
      refine x_aloadn (pc := 195) (i0 := 1) (j := 1) (dK D_Law_changes_1 46 rfl) rfl rfl ?_
      refine bnE h ?_
      clear h
      intro v249 e_v249 h
      refine wx_getV (pc := 196) (ci := 12) (f := 5) e_v249 (dK D_Law_changes_1 47 rfl) q_778 (ltK rfl) (ltK rfl) (fun hv249 => ?_)
      refine rfE h ?_
      clear h
      intro r250 e_r250 h
      rw [e_r250]
      refine gdE h ?_
      clear h
      intro hk252 h
      refine bnE h ?_
      clear h
      intro p251 e_p251 h
      refine x_callX (pc := 199) (As := []) (rest := [V a3]) (mc' := 0) (ms' := 0) (dK D_Law_changes_1 48 rfl) Q_Law_55 sx_AL_size (fitK rfl) (isK_at (Z := (S, L)) (ci := 13) hk252) rfl (leK rfl) (bdk hb) (bdn hb) (tg_AL_size  e_p251) (kxI' (fun h_p251 => ?_))
      refine gdE h ?_
      clear h
      intro hp253 h
      refine wx_irem (pc := 202) (dK D_Law_changes_1 49 rfl) ha3 h_p251 hp253 ?_
      refine nmE h ?_
      clear h
      intro v254 e_v254 h
      refine wtop e_v254 ?_
      refine x_istore (pc := 203) (ls2 := [(9, V v254), (0, .ref 0), (1, .ref c1), (2, V a2), (3, V a3), (4, V a4), (5, V a5), (6, V a6), (7, c7), (8, V a8)]) (dK D_Law_changes_2 0 rfl) (ltK rfl) rfl ?_
      refine x_aloadn (pc := 205) (i0 := 1) (j := 2) (dK D_Law_changes_2 1 rfl) rfl rfl ?_
      refine bnE h ?_
      clear h
      intro v255 e_v255 h
      refine wx_getV (pc := 206) (ci := 12) (f := 5) e_v255 (dK D_Law_changes_2 2 rfl) q_778 (ltK rfl) (ltK rfl) (fun hv255 => ?_)
      refine x_iload (pc := 209) (j := 0) (dK D_Law_changes_2 3 rfl) rfl ?_
      refine rfE h ?_
      clear h
      intro r256 e_r256 h
      rw [e_r256]
      refine gdE h ?_
      clear h
      intro hk258 h
      refine bnE h ?_
      clear h
      intro p257 e_p257 h
      refine x_callX (pc := 211) (As := [V v254]) (rest := []) (mc' := 0) (ms' := 0) (dK D_Law_changes_2 4 rfl) Q_Law_69 sx_AL_get (fitK rfl) (isK_at (Z := (S, L)) (ci := 13) hk258) rfl (leK rfl) (bdk hb) (bdn hb) (tg_AL_get (Vn_in e_v254) e_p257) (kxR (fun h_p257 => ?_))
      refine rfE h ?_
      clear h
      intro r259 e_r259 h
      rw [e_r259]
      refine gdE h ?_
      clear h
      intro hk260 h
      refine x_cast (pc := 214) (dK D_Law_changes_2 5 rfl) q_1033 (isK_at (Z := (S, L)) (ci := 11) hk260) ?_
      refine x_astore (pc := 217) (ls2 := [(10, .ref r259), (9, V v254), (0, .ref 0), (1, .ref c1), (2, V a2), (3, V a3), (4, V a4), (5, V a5), (6, V a6), (7, c7), (8, V a8)]) (dK D_Law_changes_2 6 rfl) (ltK rfl) rfl ?_
      refine x_aloadn (pc := 219) (i0 := 1) (j := 3) (dK D_Law_changes_2 7 rfl) rfl rfl ?_
      refine x_aload (pc := 220) (j := 0) (dK D_Law_changes_2 8 rfl) rfl ?_
      refine x_iload (pc := 222) (j := 7) (dK D_Law_changes_2 9 rfl) rfl ?_
      refine gdE h ?_
      clear h
      intro hk262 h
      refine bnE h ?_
      clear h
      intro p261 e_p261 h
      obtain ⟨yp261, h9, e9⟩ := adE2 h
      clear h
      subst e9
      have h := h9
      clear h9
      have hk1 := bd1 hb
      have hn1 := bd2 hb
      replace hb := bdA hb
      refine x_callX (pc := 224) (As := [.ref r259, V a5]) (rest := []) (mc' := p261.2.1) (ms' := p261.2.2) (dK D_Law_changes_2 10 rfl) Q_Law_273 sx_LP_storyReason (fitK rfl) (isK_at (Z := (S, L)) (ci := 12) hk262) rfl (leK rfl) hk1 hn1 (tg_LP_storyReason ha5 e_p261) (kxI' (fun h_p261 => ?_))
      refine x_istore (pc := 227) (ls2 := [(11, V p261.1.1), (10, .ref r259), (9, V v254), (0, .ref 0), (1, .ref c1), (2, V a2), (3, V a3), (4, V a4), (5, V a5), (6, V a6), (7, c7), (8, V a8)]) (dK D_Law_changes_2 11 rfl) (ltK rfl) rfl ?_
      refine x_iload (pc := 229) (j := 0) (dK D_Law_changes_2 12 rfl) rfl ?_
      refine wx_iconst (pc := 231) (dK D_Law_changes_2 13 rfl) ?_
      refine wx_icmp_eq (pc := 232) (t := 248) (dK D_Law_changes_2 14 rfl) rfl h_p261 (inRk rfl) (fun hc274 => ?_) (fun hc274 => ?_)
      · replace h := ifP h hc274
        refine x_iload (pc := 248) (j := 0) (dK D_Law_changes_2 21 rfl) rfl ?_
        refine x_weak (ls' := [(0, .ref 0), (5, V a5), (9, V v254), (10, .ref r259)]) (sbc 3 rfl (sbc 8 rfl (sbc 2 rfl (sbc 1 rfl sbn)))) ?_
        exact tj2_Law_changes_250 ha5 (Vn_in e_v254) h_p261 h hb
      · replace h := ifN h hc274
        refine x_aloadn (pc := 235) (i0 := 1) (j := 4) (dK D_Law_changes_2 15 rfl) rfl rfl ?_
        refine x_aload (pc := 236) (j := 1) (dK D_Law_changes_2 16 rfl) rfl ?_
        refine gdE h ?_
        clear h
        intro hk272 h
        refine bnE h ?_
        clear h
        intro p271 e_p271 h
        refine x_callX (pc := 238) (As := [.ref r259]) (rest := []) (mc' := 0) (ms' := 0) (dK D_Law_changes_2 17 rfl) Q_Law_396 sx_LP_shut (fitK rfl) (isK_at (Z := (p261.1.2.1, p261.1.2.2)) (ci := 12) hk272) rfl (leK rfl) (bdk hb) (bdn hb) (tg_LP_shut  e_p271) (kxB' ?_)
        refine wx_ifB_eq (pc := 241) (b := p271) (t := 248) (dK D_Law_changes_2 18 rfl) rfl (fun hc273 => ?_) (fun hc273 => ?_)
        · replace h := ifP h hc273
          refine wx_iconst (pc := 244) (dK D_Law_changes_2 19 rfl) ?_
          refine x_goto (pc := 245) (tgt := 250) (dK D_Law_changes_2 20 rfl) rfl ?_
          refine x_weak (ls' := [(0, .ref 0), (5, V a5), (9, V v254), (10, .ref r259)]) (sbc 3 rfl (sbc 8 rfl (sbc 2 rfl (sbc 1 rfl sbn)))) ?_
          exact tj2_Law_changes_250 ha5 (Vn_in e_v254) (inRk rfl) h hb
        · replace h := ifN h hc273
          refine x_iload (pc := 248) (j := 0) (dK D_Law_changes_2 21 rfl) rfl ?_
          refine x_weak (ls' := [(0, .ref 0), (5, V a5), (9, V v254), (10, .ref r259)]) (sbc 3 rfl (sbc 8 rfl (sbc 2 rfl (sbc 1 rfl sbn)))) ?_
          exact tj2_Law_changes_250 ha5 (Vn_in e_v254) h_p261 h hb
def jf2_Law_changes_136 (a5 : Int) (c7 : Value) (a8 : Int) (st0 : Int) (S : St) (L : List PC) : Option ((Int × LZ) × Nat × Nat) := if st0 = 0 then (rfB c7 fun r284 => bnO (pf L r284 11 5 (V a5)) fun L285 => bnO (fn_FP_put 0 a8 a5 S) fun p286 => if p286.1 = 0 then (adC 1 6 (if p286.2.1 = st0 then (if st0 = 0 then (some ((1, (p286.2.2, L285)), 0, 0)) else (some ((0, (p286.2.2, L285)), 0, 0))) else (some (((-1), (p286.2.2, L285)), 0, 0)))) else none) else (bnO (fn_FP_put 0 a8 a5 S) fun p281 => if p281.1 = 0 then (adC 1 6 (if p281.2.1 = st0 then (if st0 = 0 then (some ((1, (p281.2.2, L)), 0, 0)) else (some ((0, (p281.2.2, L)), 0, 0))) else (some (((-1), (p281.2.2, L)), 0, 0)))) else none)
theorem tj2_Law_changes_136 {sc : SC} {a5 : Int} (ha5 : inR a5) {c7 : Value} (hc7 : c7 = .null ∨ ∃ b, c7 = .ref b) {a8 : Int} (ha8 : inR a8) {st0 : Int} (hst0 : inR st0) {S : St} {L : List PC} {q : (Int × LZ) × Nat × Nat} (h : jf2_Law_changes_136 a5 c7 a8 st0 S L = some q) {mc ms k n : Nat} (hb : Bd k n mc ms q) : GX sc M_Law_changes mc ms 136 [(0, .ref 0), (5, V a5), (7, c7), (8, V a8)] [V st0] (wz (S, L)) k n (KXI q.1.1 q.1.2) := by
  unfold jf2_Law_changes_136 at h
  refine x_istore (pc := 136) (ls2 := [(9, V st0), (0, .ref 0), (5, V a5), (7, c7), (8, V a8)]) (dK D_Law_changes_1 18 rfl) (ltK rfl) rfl ?_
  refine x_iload (pc := 138) (j := 0) (dK D_Law_changes_1 19 rfl) rfl ?_
  refine wx_if_ne (pc := 140) (t := 150) (dK D_Law_changes_1 20 rfl) rfl hst0 (fun hc289 => ?_) (fun hc289 => ?_)
  · replace h := ifN h hc289
    refine x_aloadn (pc := 150) (i0 := 0) (j := 1) (dK D_Law_changes_1 24 rfl) rfl rfl ?_
    refine x_iload (pc := 151) (j := 4) (dK D_Law_changes_1 25 rfl) rfl ?_
    refine x_iload (pc := 153) (j := 2) (dK D_Law_changes_1 26 rfl) rfl ?_
    refine bnE h ?_
    clear h
    intro p281 e_p281 h
    refine gdE h ?_
    clear h
    intro hz_p281 h
    obtain ⟨yp281, h9, e9⟩ := adE2 h
    clear h
    subst e9
    have h := h9
    clear h9
    have hk1 := bd1 hb
    have hn1 := bd2 hb
    replace hb := bdA hb
    refine x_callX (pc := 155) (As := [V a8, V a5]) (rest := []) (mc' := 1) (ms' := 6) (dK D_Law_changes_1 27 rfl) Q_Law_393 sx_FP_put (fitK rfl) (isK_at (Z := (S, L)) (ci := 10) isK0) rfl (leK rfl) hk1 hn1 (clTI hz_p281 (fun E => tf_FP_put (X := xz L) rfl xz_hc ha8 ha5 e_p281)) (kxI' (fun h_p281 => ?_))
    refine x_iload (pc := 158) (j := 0) (dK D_Law_changes_1 28 rfl) rfl ?_
    refine wx_icmp_eq (pc := 160) (t := 167) (dK D_Law_changes_1 29 rfl) rfl h_p281 hst0 (fun hc283 => ?_) (fun hc283 => ?_)
    · replace h := ifP h hc283
      refine x_iload (pc := 167) (j := 0) (dK D_Law_changes_1 32 rfl) rfl ?_
      refine wx_if_ne (pc := 169) (t := 176) (dK D_Law_changes_1 33 rfl) rfl hst0 (fun hc282 => ?_) (fun hc282 => ?_)
      · replace h := ifN h hc282
        refine wx_iconst (pc := 176) (dK D_Law_changes_1 36 rfl) ?_
        obtain rfl := Option.some.inj h
        exact wk_iretI (pc := 177) (dK D_Law_changes_1 37 rfl) rfl (bdk hb) (bdn hb) ⟨rfl, (inRk rfl), rfl⟩
      · replace h := ifP h hc282
        refine wx_iconst (pc := 172) (dK D_Law_changes_1 34 rfl) ?_
        refine x_goto (pc := 173) (tgt := 177) (dK D_Law_changes_1 35 rfl) rfl ?_
        obtain rfl := Option.some.inj h
        exact wk_iretI (pc := 177) (dK D_Law_changes_1 37 rfl) rfl (bdk hb) (bdn hb) ⟨rfl, (inRk rfl), rfl⟩
    · replace h := ifN h hc283
      refine wx_iconst (pc := 163) (dK D_Law_changes_1 30 rfl) ?_
      refine x_goto (pc := 164) (tgt := 177) (dK D_Law_changes_1 31 rfl) rfl ?_
      obtain rfl := Option.some.inj h
      exact wk_iretI (pc := 177) (dK D_Law_changes_1 37 rfl) rfl (bdk hb) (bdn hb) ⟨rfl, (inRk rfl), rfl⟩
  · replace h := ifP h hc289
    refine x_aloadV (pc := 143) (j := 3) hc7 (dK D_Law_changes_1 21 rfl) rfl ?_
    refine x_iload (pc := 145) (j := 2) (dK D_Law_changes_1 22 rfl) rfl ?_
    refine rfE h ?_
    clear h
    intro r284 e_r284 h
    rw [e_r284]
    refine bnE h ?_
    clear h
    intro L285 e_L285 h
    refine wx_put (Z := (S, L)) (pc := 147) (ci := 11) (f := 5) e_L285 (dK D_Law_changes_1 23 rfl) q_889 (ltK rfl) (ltK rfl) rfl okInt ?_
    refine x_aloadn (pc := 150) (i0 := 0) (j := 1) (dK D_Law_changes_1 24 rfl) rfl rfl ?_
    refine x_iload (pc := 151) (j := 4) (dK D_Law_changes_1 25 rfl) rfl ?_
    refine x_iload (pc := 153) (j := 2) (dK D_Law_changes_1 26 rfl) rfl ?_
    refine bnE h ?_
    clear h
    intro p286 e_p286 h
    refine gdE h ?_
    clear h
    intro hz_p286 h
    obtain ⟨yp286, h9, e9⟩ := adE2 h
    clear h
    subst e9
    have h := h9
    clear h9
    have hk1 := bd1 hb
    have hn1 := bd2 hb
    replace hb := bdA hb
    refine x_callX (pc := 155) (As := [V a8, V a5]) (rest := []) (mc' := 1) (ms' := 6) (dK D_Law_changes_1 27 rfl) Q_Law_393 sx_FP_put (fitK rfl) (isK_at (Z := (S, L285)) (ci := 10) isK0) rfl (leK rfl) hk1 hn1 (clTI hz_p286 (fun E => tf_FP_put (X := xz L285) rfl xz_hc ha8 ha5 e_p286)) (kxI' (fun h_p286 => ?_))
    refine x_iload (pc := 158) (j := 0) (dK D_Law_changes_1 28 rfl) rfl ?_
    refine wx_icmp_eq (pc := 160) (t := 167) (dK D_Law_changes_1 29 rfl) rfl h_p286 hst0 (fun hc288 => ?_) (fun hc288 => ?_)
    · replace h := ifP h hc288
      refine x_iload (pc := 167) (j := 0) (dK D_Law_changes_1 32 rfl) rfl ?_
      refine wx_if_ne (pc := 169) (t := 176) (dK D_Law_changes_1 33 rfl) rfl hst0 (fun hc287 => ?_) (fun hc287 => ?_)
      · replace h := ifN h hc287
        refine wx_iconst (pc := 176) (dK D_Law_changes_1 36 rfl) ?_
        obtain rfl := Option.some.inj h
        exact wk_iretI (pc := 177) (dK D_Law_changes_1 37 rfl) rfl (bdk hb) (bdn hb) ⟨rfl, (inRk rfl), rfl⟩
      · replace h := ifP h hc287
        refine wx_iconst (pc := 172) (dK D_Law_changes_1 34 rfl) ?_
        refine x_goto (pc := 173) (tgt := 177) (dK D_Law_changes_1 35 rfl) rfl ?_
        obtain rfl := Option.some.inj h
        exact wk_iretI (pc := 177) (dK D_Law_changes_1 37 rfl) rfl (bdk hb) (bdn hb) ⟨rfl, (inRk rfl), rfl⟩
    · replace h := ifN h hc288
      refine wx_iconst (pc := 163) (dK D_Law_changes_1 30 rfl) ?_
      refine x_goto (pc := 164) (tgt := 177) (dK D_Law_changes_1 31 rfl) rfl ?_
      obtain rfl := Option.some.inj h
      exact wk_iretI (pc := 177) (dK D_Law_changes_1 37 rfl) rfl (bdk hb) (bdn hb) ⟨rfl, (inRk rfl), rfl⟩
def jf2_Law_changes_82 (c1 : Nat) (a2 : Int) (a3 : Int) (a4 : Int) (a5 : Int) (a6 : Int) (c7 : Value) (st0 : Int) (S : St) (L : List PC) : Option ((Int × LZ) × Nat × Nat) := if 4 ≤ a2 then (jf2_Law_changes_178 c1 a2 a3 a4 a5 a6 c7 st0 S L) else (nlB c7 (jf2_Law_changes_178 c1 a2 a3 a4 a5 a6 c7 st0 S L) (rfB c7 fun r278 => if isK L c1 12 = true then (bnO (gn_LP_reason c1 r278 a5 S L) fun p279 => adC p279.2.1 p279.2.2 (if p279.1.1 = 1 then (jf2_Law_changes_136 a5 (.ref r278) st0 p279.1.1 p279.1.2.1 p279.1.2.2) else (bnO (gfI p279.1.2.2 r278 11 5) fun v290 => if v290 ≤ 0 then (jf2_Law_changes_136 a5 (.ref r278) st0 p279.1.1 p279.1.2.1 p279.1.2.2) else (bnO (gfI p279.1.2.2 r278 11 5) fun v291 => if isK p279.1.2.2 c1 12 = true then (bnO (gn_LP_isShut c1 v291 p279.1.2.1 p279.1.2.2) fun p292 => if p292 = true then (jf2_Law_changes_136 a5 (.ref r278) st0 2 p279.1.2.1 p279.1.2.2) else (jf2_Law_changes_136 a5 (.ref r278) st0 p279.1.1 p279.1.2.1 p279.1.2.2)) else none)))) else none))
theorem tj2_Law_changes_82 {sc : SC} {c1 : Nat} {a2 : Int} (ha2 : inR a2) {a3 : Int} (ha3 : inR a3) {a4 : Int} (ha4 : inR a4) {a5 : Int} (ha5 : inR a5) {a6 : Int} (ha6 : inR a6) {c7 : Value} (hc7 : c7 = .null ∨ ∃ b, c7 = .ref b) {st0 : Int} (hst0 : inR st0) {S : St} {L : List PC} {q : (Int × LZ) × Nat × Nat} (h : jf2_Law_changes_82 c1 a2 a3 a4 a5 a6 c7 st0 S L = some q) {mc ms k n : Nat} (hb : Bd k n mc ms q) : GX sc M_Law_changes mc ms 82 [(0, .ref 0), (1, .ref c1), (2, V a2), (3, V a3), (4, V a4), (5, V a5), (6, V a6), (7, c7)] [V st0] (wz (S, L)) k n (KXI q.1.1 q.1.2) := by
  unfold jf2_Law_changes_82 at h
  refine x_istore (pc := 82) (ls2 := [(8, V st0), (0, .ref 0), (1, .ref c1), (2, V a2), (3, V a3), (4, V a4), (5, V a5), (6, V a6), (7, c7)]) (dK D_Law_changes_0 43 rfl) (ltK rfl) (by simp [stI, List.filter, cato hc7]) ?_
  refine x_iloadn (pc := 84) (i0 := 2) (j := 3) (dK D_Law_changes_0 44 rfl) rfl rfl ?_
  refine wx_iconst (pc := 85) (dK D_Law_changes_0 45 rfl) ?_
  refine wx_icmp_ge (pc := 86) (t := 178) (dK D_Law_changes_0 46 rfl) rfl ha2 (inRk rfl) (fun hc297 => ?_) (fun hc297 => ?_)
  · replace h := ifP h hc297
    refine x_weak (ls' := [(0, .ref 0), (1, .ref c1), (2, V a2), (3, V a3), (4, V a4), (5, V a5), (6, V a6), (7, c7), (8, V st0)]) (sbc 1 rfl (sbc 2 rfl (sbc 3 rfl (sbc 4 rfl (sbc 5 rfl (sbc 6 rfl (sbc 7 rfl (sbc 8 rfl (sbc 0 rfl sbn))))))))) ?_
    exact tj2_Law_changes_178 ha2 ha3 ha4 ha5 ha6 hc7 hst0 h hb
  · replace h := ifN h hc297
    refine x_aloadV (pc := 89) (j := 8) hc7 (dK D_Law_changes_0 47 rfl) rfl ?_
    refine nlE h ?_ ?_
    · clear h
      intro hc276 h
      refine x_ifnull (pc := 91) (tgt := 178) hc7 (dK D_Law_changes_0 48 rfl) rfl (fun _ => ?_) (fun e => absurd hc276 e)
      refine x_weak (ls' := [(0, .ref 0), (1, .ref c1), (2, V a2), (3, V a3), (4, V a4), (5, V a5), (6, V a6), (7, c7), (8, V st0)]) (sbc 1 rfl (sbc 2 rfl (sbc 3 rfl (sbc 4 rfl (sbc 5 rfl (sbc 6 rfl (sbc 7 rfl (sbc 8 rfl (sbc 0 rfl sbn))))))))) ?_
      exact tj2_Law_changes_178 ha2 ha3 ha4 ha5 ha6 hc7 hst0 h hb
    · clear h
      intro hc277 h
      refine x_ifnull (pc := 91) (tgt := 178) hc7 (dK D_Law_changes_0 48 rfl) rfl (fun e => absurd e hc277) (fun _ => ?_)
      refine x_aloadn (pc := 94) (i0 := 1) (j := 2) (dK D_Law_changes_0 49 rfl) rfl rfl ?_
      refine x_aloadV (pc := 95) (j := 8) hc7 (dK D_Law_changes_1 0 rfl) rfl ?_
      refine x_iload (pc := 97) (j := 6) (dK D_Law_changes_1 1 rfl) rfl ?_
      refine rfE h ?_
      clear h
      intro r278 e_r278 h
      rw [e_r278]
      refine gdE h ?_
      clear h
      intro hk280 h
      refine bnE h ?_
      clear h
      intro p279 e_p279 h
      obtain ⟨yp279, h9, e9⟩ := adE2 h
      clear h
      subst e9
      have h := h9
      clear h9
      have hk1 := bd1 hb
      have hn1 := bd2 hb
      replace hb := bdA hb
      refine x_callX (pc := 99) (As := [.ref r278, V a5]) (rest := []) (mc' := p279.2.1) (ms' := p279.2.2) (dK D_Law_changes_1 2 rfl) Q_Law_261 sx_LP_reason (fitK rfl) (isK_at (Z := (S, L)) (ci := 12) hk280) rfl (leK rfl) hk1 hn1 (tg_LP_reason ha5 e_p279) (kxI' (fun h_p279 => ?_))
      refine x_istore (pc := 102) (ls2 := [(9, V p279.1.1), (8, V st0), (0, .ref 0), (1, .ref c1), (2, V a2), (3, V a3), (4, V a4), (5, V a5), (6, V a6), (7, .ref r278)]) (dK D_Law_changes_1 3 rfl) (ltK rfl) rfl ?_
      refine x_iload (pc := 104) (j := 0) (dK D_Law_changes_1 4 rfl) rfl ?_
      refine wx_iconst (pc := 106) (dK D_Law_changes_1 5 rfl) ?_
      refine wx_icmp_eq (pc := 107) (t := 134) (dK D_Law_changes_1 6 rfl) rfl h_p279 (inRk rfl) (fun hc296 => ?_) (fun hc296 => ?_)
      · replace h := ifP h hc296
        refine x_iload (pc := 134) (j := 0) (dK D_Law_changes_1 17 rfl) rfl ?_
        refine x_weak (ls' := [(0, .ref 0), (5, V a5), (7, .ref r278), (8, V st0)]) (sbc 2 rfl (sbc 7 rfl (sbc 9 rfl (sbc 1 rfl sbn)))) ?_
        exact tj2_Law_changes_136 ha5 (.inr ⟨_, rfl⟩) hst0 h_p279 h hb
      · replace h := ifN h hc296
        refine x_aload (pc := 110) (j := 9) (dK D_Law_changes_1 7 rfl) rfl ?_
        refine bnE h ?_
        clear h
        intro v290 e_v290 h
        refine wx_getI (pc := 112) (ci := 11) (f := 5) e_v290 (dK D_Law_changes_1 8 rfl) q_889 (ltK rfl) (ltK rfl) ?_
        refine wx_if_le (pc := 115) (t := 134) (dK D_Law_changes_1 9 rfl) rfl (vI_at e_v290).2 (fun hc295 => ?_) (fun hc295 => ?_)
        · replace h := ifP h hc295
          refine x_iload (pc := 134) (j := 0) (dK D_Law_changes_1 17 rfl) rfl ?_
          refine x_weak (ls' := [(0, .ref 0), (5, V a5), (7, .ref r278), (8, V st0)]) (sbc 2 rfl (sbc 7 rfl (sbc 9 rfl (sbc 1 rfl sbn)))) ?_
          exact tj2_Law_changes_136 ha5 (.inr ⟨_, rfl⟩) hst0 h_p279 h hb
        · replace h := ifN h hc295
          refine x_aloadn (pc := 118) (i0 := 1) (j := 3) (dK D_Law_changes_1 10 rfl) rfl rfl ?_
          refine x_aload (pc := 119) (j := 9) (dK D_Law_changes_1 11 rfl) rfl ?_
          refine bnE h ?_
          clear h
          intro v291 e_v291 h
          refine wx_getI (pc := 121) (ci := 11) (f := 5) e_v291 (dK D_Law_changes_1 12 rfl) q_889 (ltK rfl) (ltK rfl) ?_
          refine gdE h ?_
          clear h
          intro hk293 h
          refine bnE h ?_
          clear h
          intro p292 e_p292 h
          refine x_callX (pc := 124) (As := [V v291]) (rest := []) (mc' := 0) (ms' := 0) (dK D_Law_changes_1 13 rfl) Q_Law_325 sx_LP_isShut (fitK rfl) (isK_at (Z := (p279.1.2.1, p279.1.2.2)) (ci := 12) hk293) rfl (leK rfl) (bdk hb) (bdn hb) (tg_LP_isShut (vI_at e_v291).2 e_p292) (kxB' ?_)
          refine wx_ifB_eq (pc := 127) (b := p292) (t := 134) (dK D_Law_changes_1 14 rfl) rfl (fun hc294 => ?_) (fun hc294 => ?_)
          · replace h := ifP h hc294
            refine wx_iconst (pc := 130) (dK D_Law_changes_1 15 rfl) ?_
            refine x_goto (pc := 131) (tgt := 136) (dK D_Law_changes_1 16 rfl) rfl ?_
            refine x_weak (ls' := [(0, .ref 0), (5, V a5), (7, .ref r278), (8, V st0)]) (sbc 2 rfl (sbc 7 rfl (sbc 9 rfl (sbc 1 rfl sbn)))) ?_
            exact tj2_Law_changes_136 ha5 (.inr ⟨_, rfl⟩) hst0 (inRk rfl) h hb
          · replace h := ifN h hc294
            refine x_iload (pc := 134) (j := 0) (dK D_Law_changes_1 17 rfl) rfl ?_
            refine x_weak (ls' := [(0, .ref 0), (5, V a5), (7, .ref r278), (8, V st0)]) (sbc 2 rfl (sbc 7 rfl (sbc 9 rfl (sbc 1 rfl sbn)))) ?_
            exact tj2_Law_changes_136 ha5 (.inr ⟨_, rfl⟩) hst0 h_p279 h hb
def gn_Law_changes (c1 : Nat) (a2 : Int) (a3 : Int) (a4 : Int) (S : St) (L : List PC) : Option ((Int × LZ) × Nat × Nat) := if isK L c1 12 = true then (bnO (gn_LP_pages c1 S L) fun p1 => nm (wr (p1 + 1)) fun v3 => if 0 < v3 then (nm (wr (a4.tmod v3)) fun v5 => bnO (gfI L c1 12 0) fun v6 => nm (wr (2 * v6)) fun v7 => nm (wr (a3.tdiv 40)) fun v8 => if 0 < v7 then (nm (wr (v8.tmod v7)) fun v10 => bnO (gfV L c1 12 4) fun v11 => rfB v11 fun r12 => if isK L r12 13 = true then (bnO (gn_AL_isEmpty r12 S L) fun p13 => if p13 = true then (bnO (gfV L c1 12 4) fun v298 => rfB v298 fun r299 => if isK L r299 13 = true then (bnO (gn_AL_isEmpty r299 S L) fun p300 => if p300 = true then (jf2_Law_changes_82 c1 a2 a3 a4 v5 v10 .null 0 S L) else (bnO (gfV L c1 12 4) fun v303 => rfB v303 fun r304 => if isK L r304 13 = true then (bnO (gn_AL_size r304 S L) fun p305 => if 0 < p305 then (nm (wr (a3.tmod p305)) fun v308 => jf2_Law_changes_82 c1 a2 a3 a4 v5 v10 .null v308 S L) else none) else none)) else none) else (bnO (gfV L c1 12 4) fun v16 => bnO (gfV L c1 12 4) fun v17 => rfB v17 fun r18 => if isK L r18 13 = true then (bnO (gn_AL_size r18 S L) fun p19 => if 0 < p19 then (nm (wr (a3.tmod p19)) fun v22 => rfB v16 fun r23 => if isK L r23 13 = true then (bnO (gn_AL_get r23 v22 S L) fun p24 => rfB p24 fun r26 => if isK L r26 11 = true then (bnO (gfV L c1 12 4) fun v28 => rfB v28 fun r29 => if isK L r29 13 = true then (bnO (gn_AL_isEmpty r29 S L) fun p30 => if p30 = true then (jf2_Law_changes_82 c1 a2 a3 a4 v5 v10 (.ref r26) 0 S L) else (bnO (gfV L c1 12 4) fun v33 => rfB v33 fun r34 => if isK L r34 13 = true then (bnO (gn_AL_size r34 S L) fun p35 => if 0 < p35 then (nm (wr (a3.tmod p35)) fun v38 => jf2_Law_changes_82 c1 a2 a3 a4 v5 v10 (.ref r26) v38 S L) else none) else none)) else none) else none) else none) else none) else none)) else none) else none) else none) else none
theorem te_Law_changes {sc : SC} {c1 : Nat} {a2 : Int} (ha2 : inR a2) {a3 : Int} (ha3 : inR a3) {a4 : Int} (ha4 : inR a4) {S : St} {L : List PC} {q : (Int × LZ) × Nat × Nat} (h : gn_Law_changes c1 a2 a3 a4 S L = some q) {mc ms k n : Nat} (hb : Bd k n mc ms q) : GX sc M_Law_changes mc ms 0 [(0, .ref 0), (1, .ref c1), (2, V a2), (3, V a3), (4, V a4)] [] (wz (S, L)) k n (KXI q.1.1 q.1.2) := by
  unfold gn_Law_changes at h
  refine x_iload (pc := 0) (j := 4) (dK D_Law_changes_0 0 rfl) rfl ?_
  refine x_aloadn (pc := 2) (i0 := 1) (j := 1) (dK D_Law_changes_0 1 rfl) rfl rfl ?_
  refine gdE h ?_
  clear h
  intro hk2 h
  refine bnE h ?_
  clear h
  intro p1 e_p1 h
  refine x_callX (pc := 3) (As := []) (rest := [V a4]) (mc' := 0) (ms' := 0) (dK D_Law_changes_0 2 rfl) Q_Law_42 sx_LP_pages (fitK rfl) (isK_at (Z := (S, L)) (ci := 12) hk2) rfl (leK rfl) (bdk hb) (bdn hb) (tg_LP_pages  e_p1) (kxI' (fun h_p1 => ?_))
  refine wx_iconst (pc := 6) (dK D_Law_changes_0 3 rfl) ?_
  refine wx_iadd (pc := 7) (dK D_Law_changes_0 4 rfl) ?_
  refine nmE h ?_
  clear h
  intro v3 e_v3 h
  refine wtop e_v3 ?_
  refine gdE h ?_
  clear h
  intro hp4 h
  refine wx_irem (pc := 8) (dK D_Law_changes_0 5 rfl) ha4 (Vn_in e_v3) hp4 ?_
  refine nmE h ?_
  clear h
  intro v5 e_v5 h
  refine wtop e_v5 ?_
  refine x_istore (pc := 9) (ls2 := [(5, V v5), (0, .ref 0), (1, .ref c1), (2, V a2), (3, V a3), (4, V a4)]) (dK D_Law_changes_0 6 rfl) (ltK rfl) rfl ?_
  refine x_iloadn (pc := 11) (i0 := 3) (j := 4) (dK D_Law_changes_0 7 rfl) rfl rfl ?_
  refine wx_bipush (pc := 12) (dK D_Law_changes_0 8 rfl) rfl ?_
  refine wx_idiv (pc := 14) (dK D_Law_changes_0 9 rfl) ha3 (inRk rfl) (by decide) ?_
  refine wx_iconst (pc := 15) (dK D_Law_changes_0 10 rfl) ?_
  refine x_aloadn (pc := 16) (i0 := 1) (j := 2) (dK D_Law_changes_0 11 rfl) rfl rfl ?_
  refine bnE h ?_
  clear h
  intro v6 e_v6 h
  refine wx_getI (pc := 17) (ci := 12) (f := 0) e_v6 (dK D_Law_changes_0 12 rfl) q_768 (ltK rfl) (ltK rfl) ?_
  refine wx_imul (pc := 20) (dK D_Law_changes_0 13 rfl) ?_
  refine nmE h ?_
  clear h
  intro v7 e_v7 h
  refine wtop e_v7 ?_
  refine nmE h ?_
  clear h
  intro v8 e_v8 h
  refine wsk (st' := [V v7, V v8]) (congrArg (fun z9 => [V v7, z9]) (Vn e_v8)) ?_
  refine gdE h ?_
  clear h
  intro hp9 h
  refine wx_irem (pc := 21) (dK D_Law_changes_0 14 rfl) (Vn_in e_v8) (Vn_in e_v7) hp9 ?_
  refine nmE h ?_
  clear h
  intro v10 e_v10 h
  refine wtop e_v10 ?_
  refine x_istore (pc := 22) (ls2 := [(6, V v10), (5, V v5), (0, .ref 0), (1, .ref c1), (2, V a2), (3, V a3), (4, V a4)]) (dK D_Law_changes_0 15 rfl) (ltK rfl) rfl ?_
  refine x_aloadn (pc := 24) (i0 := 1) (j := 3) (dK D_Law_changes_0 16 rfl) rfl rfl ?_
  refine bnE h ?_
  clear h
  intro v11 e_v11 h
  refine wx_getV (pc := 25) (ci := 12) (f := 4) e_v11 (dK D_Law_changes_0 17 rfl) q_776 (ltK rfl) (ltK rfl) (fun hv11 => ?_)
  refine rfE h ?_
  clear h
  intro r12 e_r12 h
  rw [e_r12]
  refine gdE h ?_
  clear h
  intro hk14 h
  refine bnE h ?_
  clear h
  intro p13 e_p13 h
  refine x_callX (pc := 28) (As := []) (rest := []) (mc' := 0) (ms' := 0) (dK D_Law_changes_0 18 rfl) Q_Law_285 sx_AL_isEmpty (fitK rfl) (isK_at (Z := (S, L)) (ci := 13) hk14) rfl (leK rfl) (bdk hb) (bdn hb) (tg_AL_isEmpty  e_p13) (kxB' ?_)
  refine wx_ifB_eq (pc := 31) (b := p13) (t := 38) (dK D_Law_changes_0 19 rfl) rfl (fun hc15 => ?_) (fun hc15 => ?_)
  · replace h := ifP h hc15
    refine x_null (pc := 34) (dK D_Law_changes_0 20 rfl) ?_
    refine x_goto (pc := 35) (tgt := 57) (dK D_Law_changes_0 21 rfl) rfl ?_
    refine x_astoreN (pc := 57) (ls2 := [(7, .null), (6, V v10), (5, V v5), (0, .ref 0), (1, .ref c1), (2, V a2), (3, V a3), (4, V a4)]) (dK D_Law_changes_0 31 rfl) (ltK rfl) rfl ?_
    refine x_aloadn (pc := 59) (i0 := 1) (j := 4) (dK D_Law_changes_0 32 rfl) rfl rfl ?_
    refine bnE h ?_
    clear h
    intro v298 e_v298 h
    refine wx_getV (pc := 60) (ci := 12) (f := 4) e_v298 (dK D_Law_changes_0 33 rfl) q_776 (ltK rfl) (ltK rfl) (fun hv298 => ?_)
    refine rfE h ?_
    clear h
    intro r299 e_r299 h
    rw [e_r299]
    refine gdE h ?_
    clear h
    intro hk301 h
    refine bnE h ?_
    clear h
    intro p300 e_p300 h
    refine x_callX (pc := 63) (As := []) (rest := []) (mc' := 0) (ms' := 0) (dK D_Law_changes_0 34 rfl) Q_Law_285 sx_AL_isEmpty (fitK rfl) (isK_at (Z := (S, L)) (ci := 13) hk301) rfl (leK rfl) (bdk hb) (bdn hb) (tg_AL_isEmpty  e_p300) (kxB' ?_)
    refine wx_ifB_eq (pc := 66) (b := p300) (t := 73) (dK D_Law_changes_0 35 rfl) rfl (fun hc302 => ?_) (fun hc302 => ?_)
    · replace h := ifP h hc302
      refine wx_iconst (pc := 69) (dK D_Law_changes_0 36 rfl) ?_
      refine x_goto (pc := 70) (tgt := 82) (dK D_Law_changes_0 37 rfl) rfl ?_
      refine x_weak (ls' := [(0, .ref 0), (1, .ref c1), (2, V a2), (3, V a3), (4, V a4), (5, V v5), (6, V v10), (7, .null)]) (sbc 3 rfl (sbc 4 rfl (sbc 5 rfl (sbc 6 rfl (sbc 7 rfl (sbc 2 rfl (sbc 1 rfl (sbc 0 rfl sbn)))))))) ?_
      exact tj2_Law_changes_82 ha2 ha3 ha4 (Vn_in e_v5) (Vn_in e_v10) (.inl rfl) (inRk rfl) h hb
    · replace h := ifN h hc302
      refine x_iloadn (pc := 73) (i0 := 3) (j := 6) (dK D_Law_changes_0 38 rfl) rfl rfl ?_
      refine x_aloadn (pc := 74) (i0 := 1) (j := 4) (dK D_Law_changes_0 39 rfl) rfl rfl ?_
      refine bnE h ?_
      clear h
      intro v303 e_v303 h
      refine wx_getV (pc := 75) (ci := 12) (f := 4) e_v303 (dK D_Law_changes_0 40 rfl) q_776 (ltK rfl) (ltK rfl) (fun hv303 => ?_)
      refine rfE h ?_
      clear h
      intro r304 e_r304 h
      rw [e_r304]
      refine gdE h ?_
      clear h
      intro hk306 h
      refine bnE h ?_
      clear h
      intro p305 e_p305 h
      refine x_callX (pc := 78) (As := []) (rest := [V a3]) (mc' := 0) (ms' := 0) (dK D_Law_changes_0 41 rfl) Q_Law_55 sx_AL_size (fitK rfl) (isK_at (Z := (S, L)) (ci := 13) hk306) rfl (leK rfl) (bdk hb) (bdn hb) (tg_AL_size  e_p305) (kxI' (fun h_p305 => ?_))
      refine gdE h ?_
      clear h
      intro hp307 h
      refine wx_irem (pc := 81) (dK D_Law_changes_0 42 rfl) ha3 h_p305 hp307 ?_
      refine nmE h ?_
      clear h
      intro v308 e_v308 h
      refine wtop e_v308 ?_
      refine x_weak (ls' := [(0, .ref 0), (1, .ref c1), (2, V a2), (3, V a3), (4, V a4), (5, V v5), (6, V v10), (7, .null)]) (sbc 3 rfl (sbc 4 rfl (sbc 5 rfl (sbc 6 rfl (sbc 7 rfl (sbc 2 rfl (sbc 1 rfl (sbc 0 rfl sbn)))))))) ?_
      exact tj2_Law_changes_82 ha2 ha3 ha4 (Vn_in e_v5) (Vn_in e_v10) (.inl rfl) (Vn_in e_v308) h hb
  · replace h := ifN h hc15
    refine x_aloadn (pc := 38) (i0 := 1) (j := 3) (dK D_Law_changes_0 22 rfl) rfl rfl ?_
    refine bnE h ?_
    clear h
    intro v16 e_v16 h
    refine wx_getV (pc := 39) (ci := 12) (f := 4) e_v16 (dK D_Law_changes_0 23 rfl) q_776 (ltK rfl) (ltK rfl) (fun hv16 => ?_)
    refine x_iloadn (pc := 42) (i0 := 3) (j := 5) (dK D_Law_changes_0 24 rfl) rfl rfl ?_
    refine x_aloadn (pc := 43) (i0 := 1) (j := 3) (dK D_Law_changes_0 25 rfl) rfl rfl ?_
    refine bnE h ?_
    clear h
    intro v17 e_v17 h
    refine wx_getV (pc := 44) (ci := 12) (f := 4) e_v17 (dK D_Law_changes_0 26 rfl) q_776 (ltK rfl) (ltK rfl) (fun hv17 => ?_)
    refine rfE h ?_
    clear h
    intro r18 e_r18 h
    rw [e_r18]
    refine gdE h ?_
    clear h
    intro hk20 h
    refine bnE h ?_
    clear h
    intro p19 e_p19 h
    refine x_callX (pc := 47) (As := []) (rest := [V a3, v16]) (mc' := 0) (ms' := 0) (dK D_Law_changes_0 27 rfl) Q_Law_55 sx_AL_size (fitK rfl) (isK_at (Z := (S, L)) (ci := 13) hk20) rfl (by simp only [List.map_cons, List.map_nil, cato hv16]; exact leK rfl) (bdk hb) (bdn hb) (tg_AL_size  e_p19) (kxI' (fun h_p19 => ?_))
    refine gdE h ?_
    clear h
    intro hp21 h
    refine wx_irem (pc := 50) (dK D_Law_changes_0 28 rfl) ha3 h_p19 hp21 ?_
    refine nmE h ?_
    clear h
    intro v22 e_v22 h
    refine wtop e_v22 ?_
    refine rfE h ?_
    clear h
    intro r23 e_r23 h
    rw [e_r23]
    refine gdE h ?_
    clear h
    intro hk25 h
    refine bnE h ?_
    clear h
    intro p24 e_p24 h
    refine x_callX (pc := 51) (As := [V v22]) (rest := []) (mc' := 0) (ms' := 0) (dK D_Law_changes_0 29 rfl) Q_Law_69 sx_AL_get (fitK rfl) (isK_at (Z := (S, L)) (ci := 13) hk25) rfl (leK rfl) (bdk hb) (bdn hb) (tg_AL_get (Vn_in e_v22) e_p24) (kxR (fun h_p24 => ?_))
    refine rfE h ?_
    clear h
    intro r26 e_r26 h
    rw [e_r26]
    refine gdE h ?_
    clear h
    intro hk27 h
    refine x_cast (pc := 54) (dK D_Law_changes_0 30 rfl) q_1033 (isK_at (Z := (S, L)) (ci := 11) hk27) ?_
    refine x_astore (pc := 57) (ls2 := [(7, .ref r26), (6, V v10), (5, V v5), (0, .ref 0), (1, .ref c1), (2, V a2), (3, V a3), (4, V a4)]) (dK D_Law_changes_0 31 rfl) (ltK rfl) rfl ?_
    refine x_aloadn (pc := 59) (i0 := 1) (j := 4) (dK D_Law_changes_0 32 rfl) rfl rfl ?_
    refine bnE h ?_
    clear h
    intro v28 e_v28 h
    refine wx_getV (pc := 60) (ci := 12) (f := 4) e_v28 (dK D_Law_changes_0 33 rfl) q_776 (ltK rfl) (ltK rfl) (fun hv28 => ?_)
    refine rfE h ?_
    clear h
    intro r29 e_r29 h
    rw [e_r29]
    refine gdE h ?_
    clear h
    intro hk31 h
    refine bnE h ?_
    clear h
    intro p30 e_p30 h
    refine x_callX (pc := 63) (As := []) (rest := []) (mc' := 0) (ms' := 0) (dK D_Law_changes_0 34 rfl) Q_Law_285 sx_AL_isEmpty (fitK rfl) (isK_at (Z := (S, L)) (ci := 13) hk31) rfl (leK rfl) (bdk hb) (bdn hb) (tg_AL_isEmpty  e_p30) (kxB' ?_)
    refine wx_ifB_eq (pc := 66) (b := p30) (t := 73) (dK D_Law_changes_0 35 rfl) rfl (fun hc32 => ?_) (fun hc32 => ?_)
    · replace h := ifP h hc32
      refine wx_iconst (pc := 69) (dK D_Law_changes_0 36 rfl) ?_
      refine x_goto (pc := 70) (tgt := 82) (dK D_Law_changes_0 37 rfl) rfl ?_
      refine x_weak (ls' := [(0, .ref 0), (1, .ref c1), (2, V a2), (3, V a3), (4, V a4), (5, V v5), (6, V v10), (7, .ref r26)]) (sbc 3 rfl (sbc 4 rfl (sbc 5 rfl (sbc 6 rfl (sbc 7 rfl (sbc 2 rfl (sbc 1 rfl (sbc 0 rfl sbn)))))))) ?_
      exact tj2_Law_changes_82 ha2 ha3 ha4 (Vn_in e_v5) (Vn_in e_v10) (.inr ⟨_, rfl⟩) (inRk rfl) h hb
    · replace h := ifN h hc32
      refine x_iloadn (pc := 73) (i0 := 3) (j := 6) (dK D_Law_changes_0 38 rfl) rfl rfl ?_
      refine x_aloadn (pc := 74) (i0 := 1) (j := 4) (dK D_Law_changes_0 39 rfl) rfl rfl ?_
      refine bnE h ?_
      clear h
      intro v33 e_v33 h
      refine wx_getV (pc := 75) (ci := 12) (f := 4) e_v33 (dK D_Law_changes_0 40 rfl) q_776 (ltK rfl) (ltK rfl) (fun hv33 => ?_)
      refine rfE h ?_
      clear h
      intro r34 e_r34 h
      rw [e_r34]
      refine gdE h ?_
      clear h
      intro hk36 h
      refine bnE h ?_
      clear h
      intro p35 e_p35 h
      refine x_callX (pc := 78) (As := []) (rest := [V a3]) (mc' := 0) (ms' := 0) (dK D_Law_changes_0 41 rfl) Q_Law_55 sx_AL_size (fitK rfl) (isK_at (Z := (S, L)) (ci := 13) hk36) rfl (leK rfl) (bdk hb) (bdn hb) (tg_AL_size  e_p35) (kxI' (fun h_p35 => ?_))
      refine gdE h ?_
      clear h
      intro hp37 h
      refine wx_irem (pc := 81) (dK D_Law_changes_0 42 rfl) ha3 h_p35 hp37 ?_
      refine nmE h ?_
      clear h
      intro v38 e_v38 h
      refine wtop e_v38 ?_
      refine x_weak (ls' := [(0, .ref 0), (1, .ref c1), (2, V a2), (3, V a3), (4, V a4), (5, V v5), (6, V v10), (7, .ref r26)]) (sbc 3 rfl (sbc 4 rfl (sbc 5 rfl (sbc 6 rfl (sbc 7 rfl (sbc 2 rfl (sbc 1 rfl (sbc 0 rfl sbn)))))))) ?_
      exact tj2_Law_changes_82 ha2 ha3 ha4 (Vn_in e_v5) (Vn_in e_v10) (.inr ⟨_, rfl⟩) (Vn_in e_v38) h hb
theorem tg_Law_changes {sc : SC} {c1 : Nat} {a2 : Int} (ha2 : inR a2) {a3 : Int} (ha3 : inR a3) {a4 : Int} (ha4 : inR a4) {S : St} {L : List PC} {q : (Int × LZ) × Nat × Nat} (h : gn_Law_changes c1 a2 a3 a4 S L = some q) : EvX sc M_Law_changes [.ref 0, .ref c1, V a2, V a3, V a4] (wz (S, L)) q.2.1 q.2.2 (KXI q.1.1 q.1.2) := EvX.of pn2_Law rfl (leK rfl) (te_Law_changes ha2 ha3 ha4 h ⟨Nat.le_of_eq (Nat.zero_add _), Nat.le_of_eq (Nat.zero_add _)⟩)
def lb2_AL_clear_27 (c1 : Nat) (a2 : Int) (go : Int × LZ → Option ((LZ) × Nat × Nat)) (a3 : Int) (S : St) (L : List PC) : Option ((LZ) × Nat × Nat) := if a2 ≤ a3 then (some ((S, L), 0, 0)) else (if okE L .null = true then bnO (ast L 103 c1 a3 .null) fun L8 => nm (wr (a3 + 1)) fun v10 => go (v10, (S, L8)) else none)
def lo2_AL_clear_27 (c1 : Nat) (a2 : Int) : Nat → Int × LZ → Option ((LZ) × Nat × Nat) := lp fun go p => lb2_AL_clear_27 c1 a2 go p.1 p.2.1 p.2.2
theorem tl2_AL_clear_27 {sc : SC} {c1 : Nat} {a2 : Int} (ha2 : inR a2) {K : Option Value → List PC → Prop} {mc ms kt nt : Nat} (hkt : kt ≤ mc) (hnt : nt ≤ ms) : ∀ (N : Nat) (a : Int × LZ) (q : (LZ) × Nat × Nat), lo2_AL_clear_27 c1 a2 N a = some q → ∀ k n, Bd k n kt nt q → inR a.1 → (GX sc M_AL_clear mc ms 42 [] [] (wz q.1) kt nt K) → GX sc M_AL_clear mc ms 27 [(1, .ref c1), (2, V a2), (3, V a.1)] [] (wz a.2) k n K := by
  refine lp_ind2 (P := fun (a : Int × LZ) (q : (LZ) × Nat × Nat) => ∀ k n, Bd k n kt nt q → inR a.1 → (GX sc M_AL_clear mc ms 42 [] [] (wz q.1) kt nt K) → GX sc M_AL_clear mc ms 27 [(1, .ref c1), (2, V a2), (3, V a.1)] [] (wz a.2) k n K) (fun go ih a q h => ?_)
  obtain ⟨a3, ⟨S, L⟩⟩ := a
  intro k n hb ha3 hx
  show GX sc M_AL_clear mc ms 27 [(1, .ref c1), (2, V a2), (3, V a3)] [] (wz (S, L)) k n K
  replace h : lb2_AL_clear_27 c1 a2 go a3 S L = some q := h
  unfold lb2_AL_clear_27 at h
  refine x_iloadn (pc := 27) (i0 := 3) (j := 2) (dK D_AL_clear 17 rfl) rfl rfl ?_
  refine x_iloadn (pc := 28) (i0 := 2) (j := 1) (dK D_AL_clear 18 rfl) rfl rfl ?_
  refine wx_icmp_ge (pc := 29) (t := 42) (dK D_AL_clear 19 rfl) rfl ha3 ha2 (fun hc11 => ?_) (fun hc11 => ?_)
  · replace h := ifP h hc11
    obtain rfl := Option.some.inj h
    refine x_weak (ls' := []) sbn ?_
    refine x_room (bdk hb) (bdn hb) ?_
    exact hx 
  · replace h := ifN h hc11
    refine x_aloadn (pc := 32) (i0 := 1) (j := 0) (dK D_AL_clear 20 rfl) rfl rfl ?_
    refine x_iloadn (pc := 33) (i0 := 3) (j := 2) (dK D_AL_clear 21 rfl) rfl rfl ?_
    refine x_null (pc := 34) (dK D_AL_clear 22 rfl) ?_
    refine gdE h ?_
    clear h
    intro hk9 h
    refine bnE h ?_
    clear h
    intro L8 e_L8 h
    refine wx_aast (Z := (S, L)) (pc := 35) e_L8 hk9 ha3 (dK D_AL_clear 23 rfl) ?_
    refine nmE h ?_
    clear h
    intro v10 e_v10 h
    refine wx_iinc (pc := 36) (j := 2) (a := a3) (z := 1) (ls2 := [(3, V v10), (1, .ref c1), (2, V a2)]) (dK D_AL_clear 24 rfl) rfl e_v10 (ltK rfl) rfl ?_
    refine x_goto (pc := 39) (tgt := 27) (dK D_AL_clear 25 rfl) rfl ?_
    refine x_weak (ls' := [(1, .ref c1), (2, V a2), (3, V v10)]) (sbc 1 rfl (sbc 2 rfl (sbc 0 rfl sbn))) ?_
    replace h := ih _ _ h
    exact h _ _ hb (Vn_in e_v10) hx
def gn_AL_clear (c0 : Nat) (S : St) (L : List PC) : Option ((LZ) × Nat × Nat) := bnO (gfI L c0 13 2) fun v1 => nm (wr (v1 + 1)) fun v2 => bnO (pf L c0 13 2 (V v2)) fun L3 => bnO (gfV L3 c0 13 0) fun v4 => bnO (gfI L3 c0 13 1) fun v5 => bnO (pf L3 c0 13 1 (V 0)) fun L6 => rfB v4 fun r7 => bnO (lo2_AL_clear_27 r7 v5 FU (0, (S, L6))) fun p12 => adC p12.2.1 p12.2.2 (some ((p12.1.1, p12.1.2), 0, 0))
theorem te_AL_clear {sc : SC} {c0 : Nat} {S : St} {L : List PC} {q : (LZ) × Nat × Nat} (h : gn_AL_clear c0 S L = some q) {mc ms k n : Nat} (hb : Bd k n mc ms q) : GX sc M_AL_clear mc ms 0 [(0, .ref c0)] [] (wz (S, L)) k n (KXU q.1) := by
  unfold gn_AL_clear at h
  refine x_aloadn (pc := 0) (i0 := 0) (j := 0) (dK D_AL_clear 0 rfl) rfl rfl ?_
  refine x_dup (pc := 1) (dK D_AL_clear 1 rfl) rfl ?_
  refine bnE h ?_
  clear h
  intro v1 e_v1 h
  refine wx_getIR (pc := 2) (f := 2) e_v1 (dK D_AL_clear 2 rfl) q_759 q_758 (ltK rfl) ?_
  refine wx_iconst (pc := 5) (dK D_AL_clear 3 rfl) ?_
  refine wx_iadd (pc := 6) (dK D_AL_clear 4 rfl) ?_
  refine nmE h ?_
  clear h
  intro v2 e_v2 h
  refine wtop e_v2 ?_
  refine bnE h ?_
  clear h
  intro L3 e_L3 h
  refine wx_putR (Z := (S, L)) (pc := 7) (ci := 13) (f := 2) e_L3 (dK D_AL_clear 5 rfl) q_759 q_758 (ltK rfl) (ltK rfl) rfl okInt ?_
  refine x_aloadn (pc := 10) (i0 := 0) (j := 0) (dK D_AL_clear 6 rfl) rfl rfl ?_
  refine bnE h ?_
  clear h
  intro v4 e_v4 h
  refine wx_getV (pc := 11) (ci := 13) (f := 0) e_v4 (dK D_AL_clear 7 rfl) q_752 (ltK rfl) (ltK rfl) (fun hv4 => ?_)
  refine x_astorenV (pc := 14) (i0 := 1) (ls2 := [(1, v4), (0, .ref c0)]) hv4 (dK D_AL_clear 8 rfl) rfl (ltK rfl) rfl ?_
  refine x_aloadn (pc := 15) (i0 := 0) (j := 1) (dK D_AL_clear 9 rfl) rfl rfl ?_
  refine bnE h ?_
  clear h
  intro v5 e_v5 h
  refine wx_getI (pc := 16) (ci := 13) (f := 1) e_v5 (dK D_AL_clear 10 rfl) q_755 (ltK rfl) (ltK rfl) ?_
  refine x_istoren (pc := 19) (i0 := 2) (ls2 := [(2, V v5), (1, v4), (0, .ref c0)]) (dK D_AL_clear 11 rfl) rfl (ltK rfl) (by simp [stI, List.filter, cato hv4]) ?_
  refine x_aloadn (pc := 20) (i0 := 0) (j := 2) (dK D_AL_clear 12 rfl) rfl rfl ?_
  refine wx_iconst (pc := 21) (dK D_AL_clear 13 rfl) ?_
  refine x_dup_x1 (pc := 22) (dK D_AL_clear 14 rfl) rfl rfl ?_
  refine bnE h ?_
  clear h
  intro L6 e_L6 h
  refine wx_put (Z := (S, L3)) (pc := 23) (ci := 13) (f := 1) e_L6 (dK D_AL_clear 15 rfl) q_755 (ltK rfl) (ltK rfl) rfl okInt ?_
  refine x_istoren (pc := 26) (i0 := 3) (ls2 := [(3, V 0), (2, V v5), (1, v4), (0, .ref c0)]) (dK D_AL_clear 16 rfl) rfl (ltK rfl) rfl ?_
  refine rfE h ?_
  clear h
  intro r7 e_r7 h
  rw [e_r7]
  refine bnE h ?_
  clear h
  intro p12 e_p12 h
  obtain ⟨yp12, h9, e9⟩ := adE2 h
  clear h
  subst e9
  have h := h9
  clear h9
  have hk1 := bd1 hb
  have hn1 := bd2 hb
  replace hb := bdA hb
  refine x_weak (ls' := [(1, .ref r7), (2, V v5), (3, V 0)]) (sbc 2 rfl (sbc 1 rfl (sbc 0 rfl sbn))) ?_
  refine tl2_AL_clear_27 (vI_at e_v5).2 hk1 hn1 FU _ _ e_p12 _ _ ⟨Nat.le_refl _, Nat.le_refl _⟩ (inRk rfl) ?_
  obtain rfl := Option.some.inj h
  exact wk_ret (pc := 42) (dK D_AL_clear 26 rfl) rfl (bdk hb) (bdn hb) ⟨rfl, rfl⟩
theorem tg_AL_clear {sc : SC} {c0 : Nat} {S : St} {L : List PC} {q : (LZ) × Nat × Nat} (h : gn_AL_clear c0 S L = some q) : EvX sc M_AL_clear [.ref c0] (wz (S, L)) q.2.1 q.2.2 (KXU q.1) := EvX.of pn2_AL rfl (leK rfl) (te_AL_clear  h ⟨Nat.le_of_eq (Nat.zero_add _), Nat.le_of_eq (Nat.zero_add _)⟩)
def gn_Prec_checkFromToIndex (a0 : Int) (a1 : Int) (a2 : Int) (S : St) (L : List PC) : Option (Int) := if a0 < 0 then none else (if a1 < a0 then none else (if a1 ≤ a2 then (some a0) else none))
theorem te_Prec_checkFromToIndex {sc : SC} {a0 : Int} (ha0 : inR a0) {a1 : Int} (ha1 : inR a1) {a2 : Int} (ha2 : inR a2) {S : St} {L : List PC} {q : Int} (h : gn_Prec_checkFromToIndex a0 a1 a2 S L = some q) {c3 : Value} (hc3 : c3 = .null ∨ ∃ b, c3 = .ref b) {mc ms k n : Nat} (hk0 : k ≤ mc) (hn0 : n ≤ ms) : GX sc M_Prec_checkFromToIndex mc ms 0 [(0, V a0), (1, V a1), (2, V a2), (3, c3)] [] (wz (S, L)) k n (KXI q (S, L)) := by
  unfold gn_Prec_checkFromToIndex at h
  refine x_iloadn (pc := 0) (i0 := 0) (j := 0) (dK D_Prec_checkFromToIndex 0 rfl) rfl rfl ?_
  refine wx_if_lt (pc := 1) (t := 14) (dK D_Prec_checkFromToIndex 1 rfl) rfl ha0 (fun hc3 => ?_) (fun hc3 => ?_)
  · replace h := ifP h hc3
    exact nomatch h
  · replace h := ifN h hc3
    refine x_iloadn (pc := 4) (i0 := 0) (j := 0) (dK D_Prec_checkFromToIndex 2 rfl) rfl rfl ?_
    refine x_iloadn (pc := 5) (i0 := 1) (j := 1) (dK D_Prec_checkFromToIndex 3 rfl) rfl rfl ?_
    refine wx_icmp_gt (pc := 6) (t := 14) (dK D_Prec_checkFromToIndex 4 rfl) rfl ha0 ha1 (fun hc2 => ?_) (fun hc2 => ?_)
    · replace h := ifP h hc2
      exact nomatch h
    · replace h := ifN h hc2
      refine x_iloadn (pc := 9) (i0 := 1) (j := 1) (dK D_Prec_checkFromToIndex 5 rfl) rfl rfl ?_
      refine x_iloadn (pc := 10) (i0 := 2) (j := 2) (dK D_Prec_checkFromToIndex 6 rfl) rfl rfl ?_
      refine wx_icmp_le (pc := 11) (t := 22) (dK D_Prec_checkFromToIndex 7 rfl) rfl ha1 ha2 (fun hc1 => ?_) (fun hc1 => ?_)
      · replace h := ifP h hc1
        refine x_iloadn (pc := 22) (i0 := 0) (j := 0) (dK D_Prec_checkFromToIndex 14 rfl) rfl rfl ?_
        obtain rfl := Option.some.inj h
        exact wk_iretI (pc := 23) (dK D_Prec_checkFromToIndex 15 rfl) rfl hk0 hn0 ⟨rfl, ha0, rfl⟩
      · replace h := ifN h hc1
        exact nomatch h
theorem tg_Prec_checkFromToIndex {sc : SC} {a0 : Int} (ha0 : inR a0) {a1 : Int} (ha1 : inR a1) {a2 : Int} (ha2 : inR a2) {S : St} {L : List PC} {q : Int} (h : gn_Prec_checkFromToIndex a0 a1 a2 S L = some q) {c3 : Value} (hc3 : c3 = .null ∨ ∃ b, c3 = .ref b) : EvX sc M_Prec_checkFromToIndex [V a0, V a1, V a2, c3] (wz (S, L)) 0 0 (KXI q (S, L)) := by
  rcases hc3 with e_c3 | ⟨b_c3, e_c3⟩ <;> subst e_c3 <;>
  exact EvX.of pn2_Prec rfl (leK rfl) (te_Prec_checkFromToIndex ha0 ha1 ha2 h (by first | exact .inl rfl | exact .inr ⟨_, rfl⟩) (Nat.le_refl _) (Nat.le_refl _))
def gn_String_checkBoundsBeginEnd (a0 : Int) (a1 : Int) (a2 : Int) (S : St) (L : List PC) : Option (Unit) := bnO (gn_Prec_checkFromToIndex a0 a1 a2 S L) fun p1 => some ()
theorem te_String_checkBoundsBeginEnd {sc : SC} {a0 : Int} (ha0 : inR a0) {a1 : Int} (ha1 : inR a1) {a2 : Int} (ha2 : inR a2) {S : St} {L : List PC} {q : Unit} (h : gn_String_checkBoundsBeginEnd a0 a1 a2 S L = some q) {mc ms k n : Nat} (hk0 : k ≤ mc) (hn0 : n ≤ ms) : GX sc M_String_checkBoundsBeginEnd mc ms 0 [(0, V a0), (1, V a1), (2, V a2)] [] (wz (S, L)) k n (KXU (S, L)) := by
  unfold gn_String_checkBoundsBeginEnd at h
  refine x_iloadn (pc := 0) (i0 := 0) (j := 0) (dK D_String_checkBoundsBeginEnd 0 rfl) rfl rfl ?_
  refine x_iloadn (pc := 1) (i0 := 1) (j := 1) (dK D_String_checkBoundsBeginEnd 1 rfl) rfl rfl ?_
  refine x_iloadn (pc := 2) (i0 := 2) (j := 2) (dK D_String_checkBoundsBeginEnd 2 rfl) rfl rfl ?_
  refine x_gs_form (pc := 3) (dK D_String_checkBoundsBeginEnd 3 rfl) q_504 (fun vform hvform => ?_)
  refine bnE h ?_
  clear h
  intro p1 e_p1 h
  refine x_callS (pc := 6) (As := [V a0, V a1, V a2, vform]) (rest := []) (mc' := 0) (ms' := 0) (dK D_String_checkBoundsBeginEnd 4 rfl) Q_String_1062 (fitK rfl) rfl (leK rfl) hk0 hn0 (tg_Prec_checkFromToIndex ha0 ha1 ha2 e_p1 hvform) (kxI' (fun h_p1 => ?_))
  refine x_pop (pc := 9) (dK D_String_checkBoundsBeginEnd 5 rfl) rfl ?_
  exact wk_ret (pc := 10) (dK D_String_checkBoundsBeginEnd 6 rfl) rfl hk0 hn0 ⟨rfl, rfl⟩
theorem tg_String_checkBoundsBeginEnd {sc : SC} {a0 : Int} (ha0 : inR a0) {a1 : Int} (ha1 : inR a1) {a2 : Int} (ha2 : inR a2) {S : St} {L : List PC} {q : Unit} (h : gn_String_checkBoundsBeginEnd a0 a1 a2 S L = some q) : EvX sc M_String_checkBoundsBeginEnd [V a0, V a1, V a2] (wz (S, L)) 0 0 (KXU (S, L)) := EvX.of pn2_String rfl (leK rfl) (te_String_checkBoundsBeginEnd ha0 ha1 ha2 h (Nat.le_refl _) (Nat.le_refl _))
def gn_String_init3 (c0 : Nat) (c1 : Nat) (a2 : Int) (S : St) (L : List PC) : Option ((LZ) × Nat × Nat) := bnO (pf L c0 16 0 (.ref c1)) fun L1 => if -128 ≤ a2 ∧ a2 ≤ 127 then (bnO (pf L1 c0 16 1 (V a2)) fun L2 => some ((S, L2), 0, 0)) else none
theorem te_String_init3 {sc : SC} {c0 : Nat} {c1 : Nat} {a2 : Int} (ha2 : inR a2) {S : St} {L : List PC} {q : (LZ) × Nat × Nat} (h : gn_String_init3 c0 c1 a2 S L = some q) {mc ms k n : Nat} (hb : Bd k n mc ms q) : GX sc M_String_init3 mc ms 0 [(0, .ref c0), (1, .ref c1), (2, V a2)] [] (wz (S, L)) k n (KXU q.1) := by
  unfold gn_String_init3 at h
  refine x_aloadn (pc := 0) (i0 := 0) (j := 0) (dK D_String_init3 0 rfl) rfl rfl ?_
  refine x_objinit (pc := 1) (dK D_String_init3 1 rfl) q_1426 (leK rfl) (leK rfl) (leK rfl) ?_
  refine x_aloadn (pc := 4) (i0 := 0) (j := 0) (dK D_String_init3 2 rfl) rfl rfl ?_
  refine x_aloadn (pc := 5) (i0 := 1) (j := 1) (dK D_String_init3 3 rfl) rfl rfl ?_
  refine bnE h ?_
  clear h
  intro L1 e_L1 h
  refine wx_putF (Z := (S, L)) (pc := 6) (ci := 16) (f := 0) e_L1 (dK D_String_init3 4 rfl) q_1460 (ltK rfl) (ltK rfl) rfl rfl rfl (okArr (.inr ⟨_, rfl⟩)) ?_
  refine x_aloadn (pc := 9) (i0 := 0) (j := 0) (dK D_String_init3 5 rfl) rfl rfl ?_
  refine x_iloadn (pc := 10) (i0 := 2) (j := 2) (dK D_String_init3 6 rfl) rfl rfl ?_
  refine gdE h ?_
  clear h
  intro hz3 h
  refine bnE h ?_
  clear h
  intro L2 e_L2 h
  refine wx_putF (Z := (S, L1)) (pc := 11) (ci := 16) (f := 1) e_L2 (dK D_String_init3 7 rfl) q_1461 (ltK rfl) (ltK rfl) rfl rfl rfl (okByte hz3) ?_
  obtain rfl := Option.some.inj h
  exact wk_ret (pc := 14) (dK D_String_init3 8 rfl) rfl (bdk hb) (bdn hb) ⟨rfl, rfl⟩
theorem tg_String_init3 {sc : SC} {c0 : Nat} {c1 : Nat} {a2 : Int} (ha2 : inR a2) {S : St} {L : List PC} {q : (LZ) × Nat × Nat} (h : gn_String_init3 c0 c1 a2 S L = some q) : EvX sc M_String_init3 [.ref c0, .ref c1, V a2] (wz (S, L)) q.2.1 q.2.2 (KXU q.1) := EvX.of pn2_String rfl (leK rfl) (te_String_init3 ha2 h ⟨Nat.le_of_eq (Nat.zero_add _), Nat.le_of_eq (Nat.zero_add _)⟩)
