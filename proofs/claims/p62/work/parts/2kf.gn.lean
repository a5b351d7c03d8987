def lb2_Law_forms_106 (c1 : Nat) (a2 : Int) (c4 : Nat) (a5 : Int) (a6 : Int) (a9 : Int) (c10 : Nat) (go : Int × Int × LZ → Option ((Int × Int × LZ) × Nat × Nat)) (a7 : Int) (a8 : Int) (S : St) (L : List PC) : Option ((Int × Int × LZ) × Nat × Nat) := if isK L c10 14 = true then (bnO (gn_Itr_hasNext c10 S L) fun p27 => if p27 = true then (if isK L c10 14 = true then (bnO (gn_Itr_next c10 S L) fun p30 => adC p30.2.1 p30.2.2 (rfB p30.1.1 fun r32 => if isK p30.1.2.2 r32 17 = true then (if isK p30.1.2.2 r32 17 = true then (bnO (gn_Integer_intValue r32 p30.1.2.1 p30.1.2.2) fun p34 => nm (wr (a7 + 1)) fun v36 => bnO (gfV p30.1.2.2 c1 12 4) fun v37 => rfB v37 fun r38 => if isK p30.1.2.2 r38 13 = true then (bnO (gn_AL_get r38 p34 p30.1.2.1 p30.1.2.2) fun p39 => rfB p39 fun r41 => if isK p30.1.2.2 r41 11 = true then (bnO (gfI p30.1.2.2 r41 11 3) fun v43 => nm (wr (a8 + v43)) fun v44 => go (v36, v44, (p30.1.2.1, p30.1.2.2))) else none) else none) else none) else none)) else none) else (some ((a7, a8, (S, L)), 0, 0))) else none
def lo2_Law_forms_106 (c1 : Nat) (a2 : Int) (c4 : Nat) (a5 : Int) (a6 : Int) (a9 : Int) (c10 : Nat) : Nat → Int × Int × LZ → Option ((Int × Int × LZ) × Nat × Nat) := lp fun go p => lb2_Law_forms_106 c1 a2 c4 a5 a6 a9 c10 go p.1 p.2.1 p.2.2.1 p.2.2.2
theorem tl2_Law_forms_106 {sc : SC} {c1 : Nat} {a2 : Int} (ha2 : inR a2) {c4 : Nat} {a5 : Int} (ha5 : inR a5) {a6 : Int} (ha6 : inR a6) {a9 : Int} (ha9 : inR a9) {c10 : Nat} {K : Option Value → List PC → Prop} {mc ms kt nt : Nat} (hkt : kt ≤ mc) (hnt : nt ≤ ms) : ∀ (N : Nat) (a : Int × Int × LZ) (q : (Int × Int × LZ) × Nat × Nat), lo2_Law_forms_106 c1 a2 c4 a5 a6 a9 c10 N a = some q → ∀ k n, Bd k n kt nt q → inR a.1 → inR a.2.1 → (inR q.1.1 → inR q.1.2.1 → GX sc M_Law_forms mc ms 157 [(0, .ref 0), (1, .ref c1), (2, V a2), (4, .ref c4), (5, V a5), (6, V a6), (7, V q.1.1), (8, V q.1.2.1), (9, V a9)] [] (wz q.1.2.2) kt nt K) → GX sc M_Law_forms mc ms 106 [(0, .ref 0), (1, .ref c1), (2, V a2), (4, .ref c4), (5, V a5), (6, V a6), (7, V a.1), (8, V a.2.1), (9, V a9), (10, .ref c10)] [] (wz a.2.2) k n K := by
  refine lp_ind2 (P := fun (a : Int × Int × LZ) (q : (Int × Int × LZ) × Nat × Nat) => ∀ k n, Bd k n kt nt q → inR a.1 → inR a.2.1 → (inR q.1.1 → inR q.1.2.1 → GX sc M_Law_forms mc ms 157 [(0, .ref 0), (1, .ref c1), (2, V a2), (4, .ref c4), (5, V a5), (6, V a6), (7, V q.1.1), (8, V q.1.2.1), (9, V a9)] [] (wz q.1.2.2) kt nt K) → GX sc M_Law_forms mc ms 106 [(0, .ref 0), (1, .ref c1), (2, V a2), (4, .ref c4), (5, V a5), (6, V a6), (7, V a.1), (8, V a.2.1), (9, V a9), (10, .ref c10)] [] (wz a.2.2) k n K) (fun go ih a q h => ?_)
  obtain ⟨a7, a8, ⟨S, L⟩⟩ := a
  intro k n hb ha7 ha8 hx
  show GX sc M_Law_forms mc ms 106 [(0, .ref 0), (1, .ref c1), (2, V a2), (4, .ref c4), (5, V a5), (6, V a6), (7, V a7), (8, V a8), (9, V a9), (10, .ref c10)] [] (wz (S, L)) k n K
  replace h : lb2_Law_forms_106 c1 a2 c4 a5 a6 a9 c10 go a7 a8 S L = some q := h
  unfold lb2_Law_forms_106 at h
  refine x_aload (pc := 106) (j := 9) (dK D_Law_forms_1 8 rfl) rfl ?_
  refine gdE h ?_
  clear h
  intro hk28 h
  refine bnE h ?_
  clear h
  intro p27 e_p27 h
  refine x_callF (pc := 108) (As := []) (rest := []) (mc' := 0) (ms' := 0) (dK D_Law_forms_1 9 rfl) LE_Itr_hasNext (List.mem_of_getElem? (i := 0) rfl) q_1469 q_843 q_845 rfl q_820 (fitK rfl) (isK_at (Z := (S, L)) (ci := 14) hk28) rfl (leK rfl) (Nat.le_trans (bdk hb) hkt) (Nat.le_trans (bdn hb) hnt) (tg_Itr_hasNext  e_p27) (kxB' ?_)
  refine wx_ifB_eq (pc := 113) (b := p27) (t := 157) (dK D_Law_forms_1 10 rfl) rfl (fun hc29 => ?_) (fun hc29 => ?_)
  · replace h := ifP h hc29
    refine x_aload (pc := 116) (j := 9) (dK D_Law_forms_1 11 rfl) rfl ?_
    refine gdE h ?_
    clear h
    intro hk31 h
    refine bnE h ?_
    clear h
    intro p30 e_p30 h
    obtain ⟨yp30, h9, e9⟩ := adE2 h
    clear h
    subst e9
    have h := h9
    clear h9
    have hk1 := Nat.le_trans (bd1 hb) hkt
    have hn1 := Nat.le_trans (bd2 hb) hnt
    replace hb := bdA hb
    refine x_callF (pc := 118) (As := []) (rest := []) (mc' := p30.2.1) (ms' := p30.2.2) (dK D_Law_forms_1 12 rfl) LE_Itr_next (List.mem_of_getElem? (i := 1) rfl) q_1471 q_852 q_854 rfl q_820 (fitK rfl) (isK_at (Z := (S, L)) (ci := 14) hk31) rfl (leK rfl) hk1 hn1 (tg_Itr_next  e_p30) (kxR (fun h_p30 => ?_))
    refine rfE h ?_
    clear h
    intro r32 e_r32 h
    rw [e_r32]
    refine gdE h ?_
    clear h
    intro hk33 h
    refine x_cast (pc := 123) (dK D_Law_forms_1 13 rfl) q_1269 (isK_at (Z := (p30.1.2.1, p30.1.2.2)) (ci := 17) hk33) ?_
    refine gdE h ?_
    clear h
    intro hk35 h
    refine bnE h ?_
    clear h
    intro p34 e_p34 h
    refine x_callX (pc := 126) (As := []) (rest := []) (mc' := 0) (ms' := 0) (dK D_Law_forms_1 14 rfl) Q_Law_158 sx_Integer_intValue (fitK rfl) (isK_at (Z := (p30.1.2.1, p30.1.2.2)) (ci := 17) hk35) rfl (leK rfl) (Nat.le_trans (bdk hb) hkt) (Nat.le_trans (bdn hb) hnt) (tg_Integer_intValue  e_p34) (kxI' (fun h_p34 => ?_))
    refine x_istore (pc := 129) (ls2 := [(11, V p34), (0, .ref 0), (1, .ref c1), (2, V a2), (4, .ref c4), (5, V a5), (6, V a6), (7, V a7), (8, V a8), (9, V a9), (10, .ref c10)]) (dK D_Law_forms_1 15 rfl) (ltK rfl) rfl ?_
    refine nmE h ?_
    clear h
    intro v36 e_v36 h
    refine wx_iinc (pc := 131) (j := 7) (a := a7) (z := 1) (ls2 := [(7, V v36), (11, V p34), (0, .ref 0), (1, .ref c1), (2, V a2), (4, .ref c4), (5, V a5), (6, V a6), (8, V a8), (9, V a9), (10, .ref c10)]) (dK D_Law_forms_1 16 rfl) rfl e_v36 (ltK rfl) rfl ?_
    refine x_iload (pc := 134) (j := 8) (dK D_Law_forms_1 17 rfl) rfl ?_
    refine x_aloadn (pc := 136) (i0 := 1) (j := 3) (dK D_Law_forms_1 18 rfl) rfl rfl ?_
    refine bnE h ?_
    clear h
    intro v37 e_v37 h
    refine wx_getV (pc := 137) (ci := 12) (f := 4) e_v37 (dK D_Law_forms_1 19 rfl) q_776 (ltK rfl) (ltK rfl) (fun hv37 => ?_)
    refine x_iload (pc := 140) (j := 1) (dK D_Law_forms_1 20 rfl) rfl ?_
    refine rfE h ?_
    clear h
    intro r38 e_r38 h
    rw [e_r38]
    refine gdE h ?_
    clear h
    intro hk40 h
    refine bnE h ?_
    clear h
    intro p39 e_p39 h
    refine x_callX (pc := 142) (As := [V p34]) (rest := [V a8]) (mc' := 0) (ms' := 0) (dK D_Law_forms_1 21 rfl) Q_Law_69 sx_AL_get (fitK rfl) (isK_at (Z := (p30.1.2.1, p30.1.2.2)) (ci := 13) hk40) rfl (leK rfl) (Nat.le_trans (bdk hb) hkt) (Nat.le_trans (bdn hb) hnt) (tg_AL_get h_p34 e_p39) (kxR (fun h_p39 => ?_))
    refine rfE h ?_
    clear h
    intro r41 e_r41 h
    rw [e_r41]
    refine gdE h ?_
    clear h
    intro hk42 h
    refine x_cast (pc := 145) (dK D_Law_forms_1 22 rfl) q_1033 (isK_at (Z := (p30.1.2.1, p30.1.2.2)) (ci := 11) hk42) ?_
    refine bnE h ?_
    clear h
    intro v43 e_v43 h
    refine wx_getI (pc := 148) (ci := 11) (f := 3) e_v43 (dK D_Law_forms_1 23 rfl) q_882 (ltK rfl) (ltK rfl) ?_
    refine wx_iadd (pc := 151) (dK D_Law_forms_1 24 rfl) ?_
    refine nmE h ?_
    clear h
    intro v44 e_v44 h
    refine wtop e_v44 ?_
    refine x_istore (pc := 152) (ls2 := [(8, V v44), (7, V v36), (11, V p34), (0, .ref 0), (1, .ref c1), (2, V a2), (4, .ref c4), (5, V a5), (6, V a6), (9, V a9), (10, .ref c10)]) (dK D_Law_forms_1 25 rfl) (ltK rfl) rfl ?_
    refine x_goto (pc := 154) (tgt := 106) (dK D_Law_forms_1 26 rfl) rfl ?_
    refine x_weak (ls' := [(0, .ref 0), (1, .ref c1), (2, V a2), (4, .ref c4), (5, V a5), (6, V a6), (7, V v36), (8, V v44), (9, V a9), (10, .ref c10)]) (sbc 3 rfl (sbc 4 rfl (sbc 5 rfl (sbc 6 rfl (sbc 7 rfl (sbc 8 rfl (sbc 1 rfl (sbc 0 rfl (sbc 9 rfl (sbc 10 rfl sbn)))))))))) ?_
    replace h := ih _ _ h
    exact h _ _ hb (Vn_in e_v36) (Vn_in e_v44) hx
  · replace h := ifN h hc29
    obtain rfl := Option.some.inj h
    refine x_weak (ls' := [(0, .ref 0), (1, .ref c1), (2, V a2), (4, .ref c4), (5, V a5), (6, V a6), (7, V a7), (8, V a8), (9, V a9)]) (sbc 0 rfl (sbc 1 rfl (sbc 2 rfl (sbc 3 rfl (sbc 4 rfl (sbc 5 rfl (sbc 6 rfl (sbc 7 rfl (sbc 8 rfl sbn))))))))) ?_
    refine x_room (bdk hb) (bdn hb) ?_
    exact hx ha7 ha8
def lb2_Law_forms_36 (c1 : Nat) (a2 : Int) (c4 : Nat) (a5 : Int) (go : Int × Int × Int × Int × LZ → Option (((Bool × LZ) ⊕ (Int × Int × Int × LZ)) × Nat × Nat)) (a6 : Int) (a7 : Int) (a8 : Int) (a9 : Int) (S : St) (L : List PC) : Option (((Bool × LZ) ⊕ (Int × Int × Int × LZ)) × Nat × Nat) := if isK L c1 12 = true then (bnO (gn_LP_pages c1 S L) fun p8 => if p8 < a9 then (some (.inr (a6, a7, a8, (S, L)), 0, 0)) else (if isK L c1 12 = true then (bnO (gn_LP_form c1 a9 S L) fun p10 => if p10 = a5 then (bnO (fn_FP_pageOf 0 a5 a6 S) fun p12 => if p12.1 = 0 then (adC 1 6 (if p12.2 = a9 then (nm (wr (a6 + 1)) fun v13 => bnO (ald L 0 c4 a5) fun v14 => if isK L c1 12 = true then (bnO (gn_LP_left c1 a9 S L) fun p15 => nm (wr (v14 + p15)) fun v17 => bnO (ast L 100 c4 a5 (V v17)) fun L18 => bnO (gfV L18 c1 12 4) fun v19 => rfB v19 fun r20 => if isK L18 c1 12 = true then (bnO (gn_LP_on c1 r20 a9 S L18) fun p21 => adC p21.2.1 p21.2.2 (rfB p21.1.1 fun r23 => if isK p21.1.2.2 r23 13 = true then (bnO (gn_AL_iterator r23 p21.1.2.1 p21.1.2.2) fun p24 => adC p24.2.1 p24.2.2 (rfB p24.1.1 fun r26 => bnO (lo2_Law_forms_106 c1 a2 c4 a5 v13 a9 r26 FU (a7, a8, (p24.1.2.1, p24.1.2.2))) fun p45 => adC p45.2.1 p45.2.2 (nm (wr (a9 + 1)) fun v46 => go (v13, p45.1.1, p45.1.2.1, v46, (p45.1.2.2.1, p45.1.2.2.2))))) else none)) else none) else none) else (some (.inl (false, (S, L)), 0, 0)))) else none) else (nm (wr (a9 + 1)) fun v48 => go (a6, a7, a8, v48, (S, L)))) else none)) else none
def lo2_Law_forms_36 (c1 : Nat) (a2 : Int) (c4 : Nat) (a5 : Int) : Nat → Int × Int × Int × Int × LZ → Option (((Bool × LZ) ⊕ (Int × Int × Int × LZ)) × Nat × Nat) := lp fun go p => lb2_Law_forms_36 c1 a2 c4 a5 go p.1 p.2.1 p.2.2.1 p.2.2.2.1 p.2.2.2.2.1 p.2.2.2.2.2
theorem tl2_Law_forms_36 {sc : SC} {c1 : Nat} {a2 : Int} (ha2 : inR a2) {c4 : Nat} {a5 : Int} (ha5 : inR a5) {K : Option Value → List PC → Prop} {mc ms kt nt : Nat} (hkt : kt ≤ mc) (hnt : nt ≤ ms) : ∀ (N : Nat) (a : Int × Int × Int × Int × LZ) (q : ((Bool × LZ) ⊕ (Int × Int × Int × LZ)) × Nat × Nat), lo2_Law_forms_36 c1 a2 c4 a5 N a = some q → ∀ k n, Bd k n kt nt q → inR a.1 → inR a.2.1 → inR a.2.2.1 → inR a.2.2.2.1 → (∀ e, q.1 = .inr e → inR e.1 → inR e.2.1 → inR e.2.2.1 → GX sc M_Law_forms mc ms 163 [(0, .ref 0), (1, .ref c1), (2, V a2), (4, .ref c4), (5, V a5), (6, V e.1), (7, V e.2.1), (8, V e.2.2.1)] [] (wz e.2.2.2) kt nt K) → (∀ r, q.1 = .inl r → K (some (V (bi r.1))) (wz r.2)) → GX sc M_Law_forms mc ms 36 [(0, .ref 0), (1, .ref c1), (2, V a2), (4, .ref c4), (5, V a5), (6, V a.1), (7, V a.2.1), (8, V a.2.2.1), (9, V a.2.2.2.1)] [] (wz a.2.2.2.2) k n K := by
  refine lp_ind2 (P := fun (a : Int × Int × Int × Int × LZ) (q : ((Bool × LZ) ⊕ (Int × Int × Int × LZ)) × Nat × Nat) => ∀ k n, Bd k n kt nt q → inR a.1 → inR a.2.1 → inR a.2.2.1 → inR a.2.2.2.1 → (∀ e, q.1 = .inr e → inR e.1 → inR e.2.1 → inR e.2.2.1 → GX sc M_Law_forms mc ms 163 [(0, .ref 0), (1, .ref c1), (2, V a2), (4, .ref c4), (5, V a5), (6, V e.1), (7, V e.2.1), (8, V e.2.2.1)] [] (wz e.2.2.2) kt nt K) → (∀ r, q.1 = .inl r → K (some (V (bi r.1))) (wz r.2)) → GX sc M_Law_forms mc ms 36 [(0, .ref 0), (1, .ref c1), (2, V a2), (4, .ref c4), (5, V a5), (6, V a.1), (7, V a.2.1), (8, V a.2.2.1), (9, V a.2.2.2.1)] [] (wz a.2.2.2.2) k n K) (fun go ih a q h => ?_)
  obtain ⟨a6, a7, a8, a9, ⟨S, L⟩⟩ := a
  intro k n hb ha6 ha7 ha8 ha9 hx hr
  show GX sc M_Law_forms mc ms 36 [(0, .ref 0), (1, .ref c1), (2, V a2), (4, .ref c4), (5, V a5), (6, V a6), (7, V a7), (8, V a8), (9, V a9)] [] (wz (S, L)) k n K
  replace h : lb2_Law_forms_36 c1 a2 c4 a5 go a6 a7 a8 a9 S L = some q := h
  unfold lb2_Law_forms_36 at h
  refine x_iload (pc := 36) (j := 8) (dK D_Law_forms_0 23 rfl) rfl ?_
  refine x_aloadn (pc := 38) (i0 := 1) (j := 1) (dK D_Law_forms_0 24 rfl) rfl rfl ?_
  refine gdE h ?_
  clear h
  intro hk9 h
  refine bnE h ?_
  clear h
  intro p8 e_p8 h
  refine x_callX (pc := 39) (As := []) (rest := [V a9]) (mc' := 0) (ms' := 0) (dK D_Law_forms_0 25 rfl) Q_Law_42 sx_LP_pages (fitK rfl) (isK_at (Z := (S, L)) (ci := 12) hk9) rfl (leK rfl) (Nat.le_trans (bdk hb) hkt) (Nat.le_trans (bdn hb) hnt) (tg_LP_pages  e_p8) (kxI' (fun h_p8 => ?_))
  refine wx_icmp_gt (pc := 42) (t := 163) (dK D_Law_forms_0 26 rfl) rfl ha9 h_p8 (fun hc50 => ?_) (fun hc50 => ?_)
  · replace h := ifP h hc50
    obtain rfl := Option.some.inj h
    refine x_weak (ls' := [(0, .ref 0), (1, .ref c1), (2, V a2), (4, .ref c4), (5, V a5), (6, V a6), (7, V a7), (8, V a8)]) (sbc 0 rfl (sbc 1 rfl (sbc 2 rfl (sbc 3 rfl (sbc 4 rfl (sbc 5 rfl (sbc 6 rfl (sbc 7 rfl sbn)))))))) ?_
    refine x_room (bdk hb) (bdn hb) ?_
    exact hx (a6, a7, a8, (S, L)) rfl ha6 ha7 ha8
  · replace h := ifN h hc50
    refine x_aloadn (pc := 45) (i0 := 1) (j := 1) (dK D_Law_forms_0 27 rfl) rfl rfl ?_
    refine x_iload (pc := 46) (j := 8) (dK D_Law_forms_0 28 rfl) rfl ?_
    refine gdE h ?_
    clear h
    intro hk11 h
    refine bnE h ?_
    clear h
    intro p10 e_p10 h
    refine x_callX (pc := 48) (As := [V a9]) (rest := []) (mc' := 0) (ms' := 0) (dK D_Law_forms_0 29 rfl) Q_Law_148 sx_LP_form (fitK rfl) (isK_at (Z := (S, L)) (ci := 12) hk11) rfl (leK rfl) (Nat.le_trans (bdk hb) hkt) (Nat.le_trans (bdn hb) hnt) (tg_LP_form ha9 e_p10) (kxI' (fun h_p10 => ?_))
    refine x_iload (pc := 51) (j := 4) (dK D_Law_forms_0 30 rfl) rfl ?_
    refine wx_icmp_eq (pc := 53) (t := 59) (dK D_Law_forms_0 31 rfl) rfl h_p10 ha5 (fun hc49 => ?_) (fun hc49 => ?_)
    · replace h := ifP h hc49
      refine x_aloadn (pc := 59) (i0 := 0) (j := 0) (dK D_Law_forms_0 33 rfl) rfl rfl ?_
      refine x_iload (pc := 60) (j := 4) (dK D_Law_forms_0 34 rfl) rfl ?_
      refine x_iload (pc := 62) (j := 5) (dK D_Law_forms_0 35 rfl) rfl ?_
      refine bnE h ?_
      clear h
      intro p12 e_p12 h
      refine gdE h ?_
      clear h
      intro hz_p12 h
      obtain ⟨yp12, h9, e9⟩ := adE2 h
      clear h
      subst e9
      have h := h9
      clear h9
      have hk1 := Nat.le_trans (bd1 hb) hkt
      have hn1 := Nat.le_trans (bd2 hb) hnt
      replace hb := bdA hb
      refine x_callX (pc := 64) (As := [V a5, V a6]) (rest := []) (mc' := 1) (ms' := 6) (dK D_Law_forms_0 36 rfl) Q_Law_218 sx_FP_pageOf (fitK rfl) (isK_at (Z := (S, L)) (ci := 10) isK0) rfl (leK rfl) hk1 hn1 (clTI hz_p12 (fun E => tf_FP_pageOf (X := xz L) rfl xz_hc ha5 ha6 e_p12)) (kxI' (fun h_p12 => ?_))
      refine x_iload (pc := 67) (j := 8) (dK D_Law_forms_0 37 rfl) rfl ?_
      refine wx_icmp_eq (pc := 69) (t := 74) (dK D_Law_forms_0 38 rfl) rfl h_p12 ha9 (fun hc47 => ?_) (fun hc47 => ?_)
      · replace h := ifP h hc47
        refine nmE h ?_
        clear h
        intro v13 e_v13 h
        refine wx_iinc (pc := 74) (j := 5) (a := a6) (z := 1) (ls2 := [(6, V v13), (0, .ref 0), (1, .ref c1), (2, V a2), (4, .ref c4), (5, V a5), (7, V a7), (8, V a8), (9, V a9)]) (dK D_Law_forms_0 41 rfl) rfl e_v13 (ltK rfl) rfl ?_
        refine x_aload (pc := 77) (j := 4) (dK D_Law_forms_0 42 rfl) rfl ?_
        refine x_iload (pc := 79) (j := 5) (dK D_Law_forms_0 43 rfl) rfl ?_
        refine x_dup2 (pc := 81) (dK D_Law_forms_0 44 rfl) rfl rfl ?_
        refine bnE h ?_
        clear h
        intro v14 e_v14 h
        refine wx_iald (pc := 82) e_v14 ha5 (dK D_Law_forms_0 45 rfl) ?_
        refine x_aloadn (pc := 83) (i0 := 1) (j := 2) (dK D_Law_forms_0 46 rfl) rfl rfl ?_
        refine x_iload (pc := 84) (j := 8) (dK D_Law_forms_0 47 rfl) rfl ?_
        refine gdE h ?_
        clear h
        intro hk16 h
        refine bnE h ?_
        clear h
        intro p15 e_p15 h
        refine x_callX (pc := 86) (As := [V a9]) (rest := [V v14, V a5, .ref c4]) (mc' := 0) (ms' := 0) (dK D_Law_forms_0 48 rfl) Q_Law_142 sx_LP_left (fitK rfl) (isK_at (Z := (S, L)) (ci := 12) hk16) rfl (leK rfl) (Nat.le_trans (bdk hb) hkt) (Nat.le_trans (bdn hb) hnt) (tg_LP_left ha9 e_p15) (kxI' (fun h_p15 => ?_))
        refine wx_iadd (pc := 89) (dK D_Law_forms_0 49 rfl) ?_
        refine nmE h ?_
        clear h
        intro v17 e_v17 h
        refine wtop e_v17 ?_
        refine bnE h ?_
        clear h
        intro L18 e_L18 h
        refine wx_iast (Z := (S, L)) (pc := 90) (z := v17) e_L18 ha5 (dK D_Law_forms_1 0 rfl) ?_
        refine x_aloadn (pc := 91) (i0 := 1) (j := 2) (dK D_Law_forms_1 1 rfl) rfl rfl ?_
        refine x_aloadn (pc := 92) (i0 := 1) (j := 2) (dK D_Law_forms_1 2 rfl) rfl rfl ?_
        refine bnE h ?_
        clear h
        intro v19 e_v19 h
        refine wx_getV (pc := 93) (ci := 12) (f := 4) e_v19 (dK D_Law_forms_1 3 rfl) q_776 (ltK rfl) (ltK rfl) (fun hv19 => ?_)
        refine x_iload (pc := 96) (j := 8) (dK D_Law_forms_1 4 rfl) rfl ?_
        refine rfE h ?_
        clear h
        intro r20 e_r20 h
        rw [e_r20]
        refine gdE h ?_
        clear h
        intro hk22 h
        refine bnE h ?_
        clear h
        intro p21 e_p21 h
        obtain ⟨yp21, h9, e9⟩ := adE2 h
        clear h
        subst e9
        have h := h9
        clear h9
        have hk1 := Nat.le_trans (bd1 hb) hkt
        have hn1 := Nat.le_trans (bd2 hb) hnt
        replace hb := bdA hb
        refine x_callX (pc := 98) (As := [.ref r20, V a9]) (rest := []) (mc' := p21.2.1) (ms' := p21.2.2) (dK D_Law_forms_1 5 rfl) Q_Law_138 sx_LP_on (fitK rfl) (isK_at (Z := (S, L18)) (ci := 12) hk22) rfl (leK rfl) hk1 hn1 (tg_LP_on ha9 e_p21) (kxR (fun h_p21 => ?_))
        refine rfE h ?_
        clear h
        intro r23 e_r23 h
        rw [e_r23]
        refine gdE h ?_
        clear h
        intro hk25 h
        refine bnE h ?_
        clear h
        intro p24 e_p24 h
        obtain ⟨yp24, h9, e9⟩ := adE2 h
        clear h
        subst e9
        have h := h9
        clear h9
        have hk1 := Nat.le_trans (bd1 hb) hkt
        have hn1 := Nat.le_trans (bd2 hb) hnt
        replace hb := bdA hb
        refine x_callX (pc := 101) (As := []) (rest := []) (mc' := p24.2.1) (ms' := p24.2.2) (dK D_Law_forms_1 6 rfl) Q_Law_179 sx_AL_iterator (fitK rfl) (isK_at (Z := (p21.1.2.1, p21.1.2.2)) (ci := 13) hk25) rfl (leK rfl) hk1 hn1 (tg_AL_iterator  e_p24) (kxR (fun h_p24 => ?_))
        refine x_astoreV (pc := 104) (ls2 := [(10, p24.1.1), (6, V v13), (0, .ref 0), (1, .ref c1), (2, V a2), (4, .ref c4), (5, V a5), (7, V a7), (8, V a8), (9, V a9)]) h_p24 (dK D_Law_forms_1 7 rfl) (ltK rfl) rfl ?_
        refine rfE h ?_
        clear h
        intro r26 e_r26 h
        rw [e_r26]
        refine bnE h ?_
        clear h
        intro p45 e_p45 h
        obtain ⟨yp45, h9, e9⟩ := adE2 h
        clear h
        subst e9
        have h := h9
        clear h9
        have hk1 := Nat.le_trans (bd1 hb) hkt
        have hn1 := Nat.le_trans (bd2 hb) hnt
        replace hb := bdA hb
        refine x_weak (ls' := [(0, .ref 0), (1, .ref c1), (2, V a2), (4, .ref c4), (5, V a5), (6, V v13), (7, V a7), (8, V a8), (9, V a9), (10, .ref r26)]) (sbc 2 rfl (sbc 3 rfl (sbc 4 rfl (sbc 5 rfl (sbc 6 rfl (sbc 1 rfl (sbc 7 rfl (sbc 8 rfl (sbc 9 rfl (sbc 0 rfl sbn)))))))))) ?_
        refine tl2_Law_forms_106 ha2 ha5 (Vn_in e_v13) ha9 hk1 hn1 FU _ _ e_p45 _ _ ⟨Nat.le_refl _, Nat.le_refl _⟩ ha7 ha8 (fun hx7_p45 hx8_p45 => ?_)
        refine nmE h ?_
        clear h
        intro v46 e_v46 h
        refine wx_iinc (pc := 157) (j := 8) (a := a9) (z := 1) (ls2 := [(9, V v46), (0, .ref 0), (1, .ref c1), (2, V a2), (4, .ref c4), (5, V a5), (6, V v13), (7, V p45.1.1), (8, V p45.1.2.1)]) (dK D_Law_forms_1 27 rfl) rfl e_v46 (ltK rfl) rfl ?_
        refine x_goto (pc := 160) (tgt := 36) (dK D_Law_forms_1 28 rfl) rfl ?_
        refine x_weak (ls' := [(0, .ref 0), (1, .ref c1), (2, V a2), (4, .ref c4), (5, V a5), (6, V v13), (7, V p45.1.1), (8, V p45.1.2.1), (9, V v46)]) (sbc 1 rfl (sbc 2 rfl (sbc 3 rfl (sbc 4 rfl (sbc 5 rfl (sbc 6 rfl (sbc 7 rfl (sbc 8 rfl (sbc 0 rfl sbn))))))))) ?_
        replace h := ih _ _ h
        exact h _ _ hb (Vn_in e_v13) hx7_p45 hx8_p45 (Vn_in e_v46) hx hr
      · replace h := ifN h hc47
        refine wx_iconst (pc := 72) (dK D_Law_forms_0 39 rfl) ?_
        obtain rfl := Option.some.inj h
        exact wk_iretB (pc := 73) (b := false) (dK D_Law_forms_0 40 rfl) rfl (Nat.le_trans (bdk hb) hkt) (Nat.le_trans (bdn hb) hnt) (hr (false, (S, L)) rfl)
    · replace h := ifN h hc49
      refine x_goto (pc := 56) (tgt := 157) (dK D_Law_forms_0 32 rfl) rfl ?_
      refine nmE h ?_
      clear h
      intro v48 e_v48 h
      refine wx_iinc (pc := 157) (j := 8) (a := a9) (z := 1) (ls2 := [(9, V v48), (0, .ref 0), (1, .ref c1), (2, V a2), (4, .ref c4), (5, V a5), (6, V a6), (7, V a7), (8, V a8)]) (dK D_Law_forms_1 27 rfl) rfl e_v48 (ltK rfl) rfl ?_
      refine x_goto (pc := 160) (tgt := 36) (dK D_Law_forms_1 28 rfl) rfl ?_
      refine x_weak (ls' := [(0, .ref 0), (1, .ref c1), (2, V a2), (4, .ref c4), (5, V a5), (6, V a6), (7, V a7), (8, V a8), (9, V v48)]) (sbc 1 rfl (sbc 2 rfl (sbc 3 rfl (sbc 4 rfl (sbc 5 rfl (sbc 6 rfl (sbc 7 rfl (sbc 8 rfl (sbc 0 rfl sbn))))))))) ?_
      replace h := ih _ _ h
      exact h _ _ hb ha6 ha7 ha8 (Vn_in e_v48) hx hr
def lb2_Law_forms_269 (c1 : Nat) (a2 : Int) (c4 : Nat) (a5 : Int) (a6 : Int) (a8 : Int) (c9 : Nat) (go : Int × LZ → Option (((Bool × LZ) ⊕ (LZ)) × Nat × Nat)) (a10 : Int) (S : St) (L : List PC) : Option (((Bool × LZ) ⊕ (LZ)) × Nat × Nat) := if 9 ≤ a10 then (some (.inr (S, L), 0, 0)) else (bnO (fn_FP_form 0 a5 a10 S) fun p83 => if p83.1 = 0 then (adC 1 6 (bnO (ald L 0 c9 a10) fun v84 => if p83.2 = v84 then (nm (wr (a10 + 1)) fun v85 => go (v85, (S, L))) else (some (.inl (false, (S, L)), 0, 0)))) else none)
def lo2_Law_forms_269 (c1 : Nat) (a2 : Int) (c4 : Nat) (a5 : Int) (a6 : Int) (a8 : Int) (c9 : Nat) : Nat → Int × LZ → Option (((Bool × LZ) ⊕ (LZ)) × Nat × Nat) := lp fun go p => lb2_Law_forms_269 c1 a2 c4 a5 a6 a8 c9 go p.1 p.2.1 p.2.2
theorem tl2_Law_forms_269 {sc : SC} {c1 : Nat} {a2 : Int} (ha2 : inR a2) {c4 : Nat} {a5 : Int} (ha5 : inR a5) {a6 : Int} (ha6 : inR a6) {a8 : Int} (ha8 : inR a8) {c9 : Nat} {K : Option Value → List PC → Prop} {mc ms kt nt : Nat} (hkt : kt ≤ mc) (hnt : nt ≤ ms) : ∀ (N : Nat) (a : Int × LZ) (q : ((Bool × LZ) ⊕ (LZ)) × Nat × Nat), lo2_Law_forms_269 c1 a2 c4 a5 a6 a8 c9 N a = some q → ∀ k n, Bd k n kt nt q → inR a.1 → (∀ e, q.1 = .inr e → GX sc M_Law_forms mc ms 300 [(0, .ref 0), (1, .ref c1), (2, V a2), (4, .ref c4), (5, V a5), (6, V a6), (8, V a8)] [] (wz e) kt nt K) → (∀ r, q.1 = .inl r → K (some (V (bi r.1))) (wz r.2)) → GX sc M_Law_forms mc ms 269 [(0, .ref 0), (1, .ref c1), (2, V a2), (4, .ref c4), (5, V a5), (6, V a6), (8, V a8), (9, .ref c9), (10, V a.1)] [] (wz a.2) k n K := by
  refine lp_ind2 (P := fun (a : Int × LZ) (q : ((Bool × LZ) ⊕ (LZ)) × Nat × Nat) => ∀ k n, Bd k n kt nt q → inR a.1 → (∀ e, q.1 = .inr e → GX sc M_Law_forms mc ms 300 [(0, .ref 0), (1, .ref c1), (2, V a2), (4, .ref c4), (5, V a5), (6, V a6), (8, V a8)] [] (wz e) kt nt K) → (∀ r, q.1 = .inl r → K (some (V (bi r.1))) (wz r.2)) → GX sc M_Law_forms mc ms 269 [(0, .ref 0), (1, .ref c1), (2, V a2), (4, .ref c4), (5, V a5), (6, V a6), (8, V a8), (9, .ref c9), (10, V a.1)] [] (wz a.2) k n K) (fun go ih a q h => ?_)
  obtain ⟨a10, ⟨S, L⟩⟩ := a
  intro k n hb ha10 hx hr
  show GX sc M_Law_forms mc ms 269 [(0, .ref 0), (1, .ref c1), (2, V a2), (4, .ref c4), (5, V a5), (6, V a6), (8, V a8), (9, .ref c9), (10, V a10)] [] (wz (S, L)) k n K
  replace h : lb2_Law_forms_269 c1 a2 c4 a5 a6 a8 c9 go a10 S L = some q := h
  unfold lb2_Law_forms_269 at h
  refine x_iload (pc := 269) (j := 8) (dK D_Law_forms_2 47 rfl) rfl ?_
  refine wx_bipush (pc := 271) (dK D_Law_forms_2 48 rfl) rfl ?_
  refine wx_icmp_ge (pc := 273) (t := 300) (dK D_Law_forms_2 49 rfl) rfl ha10 (inRk rfl) (fun hc87 => ?_) (fun hc87 => ?_)
  · replace h := ifP h hc87
    obtain rfl := Option.some.inj h
    refine x_weak (ls' := [(0, .ref 0), (1, .ref c1), (2, V a2), (4, .ref c4), (5, V a5), (6, V a6), (8, V a8)]) (sbc 0 rfl (sbc 1 rfl (sbc 2 rfl (sbc 3 rfl (sbc 4 rfl (sbc 5 rfl (sbc 6 rfl sbn))))))) ?_
    refine x_room (bdk hb) (bdn hb) ?_
    exact hx (S, L) rfl
  · replace h := ifN h hc87
    refine x_aloadn (pc := 276) (i0 := 0) (j := 0) (dK D_Law_forms_3 0 rfl) rfl rfl ?_
    refine x_iload (pc := 277) (j := 4) (dK D_Law_forms_3 1 rfl) rfl ?_
    refine x_iload (pc := 279) (j := 8) (dK D_Law_forms_3 2 rfl) rfl ?_
    refine bnE h ?_
    clear h
    intro p83 e_p83 h
    refine gdE h ?_
    clear h
    intro hz_p83 h
    obtain ⟨yp83, h9, e9⟩ := adE2 h
    clear h
    subst e9
    have h := h9
    clear h9
    have hk1 := Nat.le_trans (bd1 hb) hkt
    have hn1 := Nat.le_trans (bd2 hb) hnt
    replace hb := bdA hb
    refine x_callX (pc := 281) (As := [V a5, V a10]) (rest := []) (mc' := 1) (ms' := 6) (dK D_Law_forms_3 3 rfl) Q_Law_232 sx_FP_form (fitK rfl) (isK_at (Z := (S, L)) (ci := 10) isK0) rfl (leK rfl) hk1 hn1 (clTI hz_p83 (fun E => tf_FP_form (X := xz L) rfl xz_hc ha5 ha10 e_p83)) (kxI' (fun h_p83 => ?_))
    refine x_aload (pc := 284) (j := 7) (dK D_Law_forms_3 4 rfl) rfl ?_
    refine x_iload (pc := 286) (j := 8) (dK D_Law_forms_3 5 rfl) rfl ?_
    refine bnE h ?_
    clear h
    intro v84 e_v84 h
    refine wx_iald (pc := 288) e_v84 ha10 (dK D_Law_forms_3 6 rfl) ?_
    refine wx_icmp_eq (pc := 289) (t := 294) (dK D_Law_forms_3 7 rfl) rfl h_p83 (vI_at e_v84).2 (fun hc86 => ?_) (fun hc86 => ?_)
    · replace h := ifP h hc86
      refine nmE h ?_
      clear h
      intro v85 e_v85 h
      refine wx_iinc (pc := 294) (j := 8) (a := a10) (z := 1) (ls2 := [(10, V v85), (0, .ref 0), (1, .ref c1), (2, V a2), (4, .ref c4), (5, V a5), (6, V a6), (8, V a8), (9, .ref c9)]) (dK D_Law_forms_3 10 rfl) rfl e_v85 (ltK rfl) rfl ?_
      refine x_goto (pc := 297) (tgt := 269) (dK D_Law_forms_3 11 rfl) rfl ?_
      refine x_weak (ls' := [(0, .ref 0), (1, .ref c1), (2, V a2), (4, .ref c4), (5, V a5), (6, V a6), (8, V a8), (9, .ref c9), (10, V v85)]) (sbc 1 rfl (sbc 2 rfl (sbc 3 rfl (sbc 4 rfl (sbc 5 rfl (sbc 6 rfl (sbc 7 rfl (sbc 8 rfl (sbc 0 rfl sbn))))))))) ?_
      replace h := ih _ _ h
      exact h _ _ hb (Vn_in e_v85) hx hr
    · replace h := ifN h hc86
      refine wx_iconst (pc := 292) (dK D_Law_forms_3 8 rfl) ?_
      obtain rfl := Option.some.inj h
      exact wk_iretB (pc := 293) (b := false) (dK D_Law_forms_3 9 rfl) rfl (Nat.le_trans (bdk hb) hkt) (Nat.le_trans (bdn hb) hnt) (hr (false, (S, L)) rfl)
def jf2_Law_forms_258_13 (c1 : Nat) (c4 : Nat) (go : Int × Int × LZ → Option (((Bool × LZ) ⊕ (Int × LZ)) × Nat × Nat)) (a2 : Int) (a5 : Int) (a6 : Int) (a8 : Int) (st0 : Int) (st1 : Int) (ct2 : Nat) (ct3 : Nat) (S : St) (L : List PC) : Option (((Bool × LZ) ⊕ (Int × LZ)) × Nat × Nat) := bnO (ast L 100 ct2 st1 (V st0)) fun L81 => bnO (ast L81 100 ct3 8 (V (-1))) fun L82 => bnT (lo2_Law_forms_269 c1 a2 c4 a5 a6 a8 ct3 FU (0, (S, L82))) (fun r89 => some (.inl (r89.1, (r89.2.1, r89.2.2)), 0, 0)) fun e90 => bnO (fn_FP_pageOf 0 a5 a6 e90.1) fun p91 => if p91.1 = 0 then (adC 1 6 (if p91.2 = (-1) then (bnO (fn_FP_pageOf 0 a5 (-1) e90.1) fun p92 => if p92.1 = 0 then (adC 1 6 (if p92.2 = (-1) then (bnO (fn_FP_revenueOf 0 a5 e90.1) fun p93 => if p93.1 = 0 then (adC 1 6 (if p93.2 = a8 then (bnO (gfV e90.2 c1 12 8) fun v94 => rfB v94 fun r95 => bnO (ald e90.2 2 r95 a5) fun v96 => if v96 = 0 then (bnO (gfV e90.2 c1 12 9) fun v98 => rfB v98 fun r99 => bnO (ald e90.2 0 r99 a5) fun v100 => if v100 < 0 then (nm (wr (a5 + 1)) fun v101 => go (a2, v101, (e90.1, e90.2))) else (if a2 < 0 then (nm (wr (a5 + 1)) fun v102 => go (a5, v102, (e90.1, e90.2))) else (bnO (gfV e90.2 c1 12 9) fun v103 => rfB v103 fun r104 => bnO (ald e90.2 0 r104 a5) fun v105 => bnO (gfV e90.2 c1 12 9) fun v106 => rfB v106 fun r107 => bnO (ald e90.2 0 r107 a2) fun v108 => if v108 ≤ v105 then (nm (wr (a5 + 1)) fun v109 => go (a2, v109, (e90.1, e90.2))) else (nm (wr (a5 + 1)) fun v110 => go (a5, v110, (e90.1, e90.2)))))) else (nm (wr (a5 + 1)) fun v97 => go (a2, v97, (e90.1, e90.2)))) else (some (.inl (false, (e90.1, e90.2)), 0, 0)))) else none) else (some (.inl (false, (e90.1, e90.2)), 0, 0)))) else none) else (some (.inl (false, (e90.1, e90.2)), 0, 0)))) else none
theorem tj2_Law_forms_258_13 {sc : SC} {c1 : Nat} {c4 : Nat} {K : Option Value → List PC → Prop} {mc ms kt nt : Nat} (hkt : kt ≤ mc) (hnt : nt ≤ ms) {go : Int × Int × LZ → Option (((Bool × LZ) ⊕ (Int × LZ)) × Nat × Nat)} (ih : ∀ (a : Int × Int × LZ) (q : ((Bool × LZ) ⊕ (Int × LZ)) × Nat × Nat), go a = some q → ∀ k n, Bd k n kt nt q → inR a.1 → inR a.2.1 → (∀ e, q.1 = .inr e → inR e.1 → GX sc M_Law_forms mc ms 389 [(0, .ref 0), (1, .ref c1), (2, V e.1), (4, .ref c4)] [] (wz e.2) kt nt K) → (∀ r, q.1 = .inl r → K (some (V (bi r.1))) (wz r.2)) → GX sc M_Law_forms mc ms 13 [(0, .ref 0), (1, .ref c1), (2, V a.1), (4, .ref c4), (5, V a.2.1)] [] (wz a.2.2) k n K) {a2 : Int} (ha2 : inR a2) {a5 : Int} (ha5 : inR a5) {a6 : Int} (ha6 : inR a6) {a8 : Int} (ha8 : inR a8) {st0 : Int} (hst0 : inR st0) {st1 : Int} (hst1 : inR st1) {ct2 : Nat} {ct3 : Nat} {S : St} {L : List PC} {q : ((Bool × LZ) ⊕ (Int × LZ)) × Nat × Nat} (h : jf2_Law_forms_258_13 c1 c4 go a2 a5 a6 a8 st0 st1 ct2 ct3 S L = some q) {k n : Nat} (hb : Bd k n kt nt q) (hx : (∀ e, q.1 = .inr e → inR e.1 → GX sc M_Law_forms mc ms 389 [(0, .ref 0), (1, .ref c1), (2, V e.1), (4, .ref c4)] [] (wz e.2) kt nt K)) (hr : (∀ r, q.1 = .inl r → K (some (V (bi r.1))) (wz r.2))) : GX sc M_Law_forms mc ms 258 [(0, .ref 0), (1, .ref c1), (2, V a2), (4, .ref c4), (5, V a5), (6, V a6), (8, V a8)] [V st0, V st1, .ref ct2, .ref ct3] (wz (S, L)) k n K := by
  unfold jf2_Law_forms_258_13 at h
  refine bnE h ?_
  clear h
  intro L81 e_L81 h
  refine wx_iast (Z := (S, L)) (pc := 258) (z := st0) e_L81 hst1 (dK D_Law_forms_2 39 rfl) ?_
  refine x_dup (pc := 259) (dK D_Law_forms_2 40 rfl) rfl ?_
  refine wx_bipush (pc := 260) (dK D_Law_forms_2 41 rfl) rfl ?_
  refine wx_iconst (pc := 262) (dK D_Law_forms_2 42 rfl) ?_
  refine bnE h ?_
  clear h
  intro L82 e_L82 h
  refine wx_iast (Z := (S, L81)) (pc := 263) (z := (-1)) e_L82 (inRk rfl) (dK D_Law_forms_2 43 rfl) ?_
  refine x_astore (pc := 264) (ls2 := [(9, .ref ct3), (0, .ref 0), (1, .ref c1), (2, V a2), (4, .ref c4), (5, V a5), (6, V a6), (8, V a8)]) (dK D_Law_forms_2 44 rfl) (ltK rfl) rfl ?_
  refine wx_iconst (pc := 266) (dK D_Law_forms_2 45 rfl) ?_
  refine x_istore (pc := 267) (ls2 := [(10, V 0), (9, .ref ct3), (0, .ref 0), (1, .ref c1), (2, V a2), (4, .ref c4), (5, V a5), (6, V a6), (8, V a8)]) (dK D_Law_forms_2 46 rfl) (ltK rfl) rfl ?_
  refine bnTE h ?_ ?_
  · clear h
    intro p88 r89 yp88 e_p88 f_p88 h e9
    subst e9
    have hk1 := Nat.le_trans (bd1 hb) hkt
    have hn1 := Nat.le_trans (bd2 hb) hnt
    replace hb := bdA hb
    refine x_weak (ls' := [(0, .ref 0), (1, .ref c1), (2, V a2), (4, .ref c4), (5, V a5), (6, V a6), (8, V a8), (9, .ref ct3), (10, V 0)]) (sbc 2 rfl (sbc 3 rfl (sbc 4 rfl (sbc 5 rfl (sbc 6 rfl (sbc 7 rfl (sbc 8 rfl (sbc 1 rfl (sbc 0 rfl sbn))))))))) ?_
    refine tl2_Law_forms_269 ha2 ha5 ha6 ha8 hk1 hn1 FU _ _ e_p88 _ _ ⟨Nat.le_refl _, Nat.le_refl _⟩ (inRk rfl) (fun _ g_ => by rw [f_p88] at g_; exact nomatch g_) (fun r_ g_  => ?_)
    obtain rfl := Sum.inl.inj (f_p88.symm.trans g_)
    obtain rfl := Option.some.inj h
    exact hr (r89.1, (r89.2.1, r89.2.2)) rfl
  · clear h
    intro p88 e90 yp88 e_p88 f_p88 h e9
    subst e9
    have hk1 := Nat.le_trans (bd1 hb) hkt
    have hn1 := Nat.le_trans (bd2 hb) hnt
    replace hb := bdA hb
    refine x_weak (ls' := [(0, .ref 0), (1, .ref c1), (2, V a2), (4, .ref c4), (5, V a5), (6, V a6), (8, V a8), (9, .ref ct3), (10, V 0)]) (sbc 2 rfl (sbc 3 rfl (sbc 4 rfl (sbc 5 rfl (sbc 6 rfl (sbc 7 rfl (sbc 8 rfl (sbc 1 rfl (sbc 0 rfl sbn))))))))) ?_
    refine tl2_Law_forms_269 ha2 ha5 ha6 ha8 hk1 hn1 FU _ _ e_p88 _ _ ⟨Nat.le_refl _, Nat.le_refl _⟩ (inRk rfl) (fun e_ g_  => ?_) (fun _ g_ => by rw [f_p88] at g_; exact nomatch g_)
    obtain rfl := Sum.inr.inj (f_p88.symm.trans g_)
    refine x_aloadn (pc := 300) (i0 := 0) (j := 0) (dK D_Law_forms_3 12 rfl) rfl rfl ?_
    refine x_iload (pc := 301) (j := 4) (dK D_Law_forms_3 13 rfl) rfl ?_
    refine x_iload (pc := 303) (j := 5) (dK D_Law_forms_3 14 rfl) rfl ?_
    refine bnE h ?_
    clear h
    intro p91 e_p91 h
    refine gdE h ?_
    clear h
    intro hz_p91 h
    obtain ⟨yp91, h9, e9⟩ := adE2 h
    clear h
    subst e9
    have h := h9
    clear h9
    have hk1 := Nat.le_trans (bd1 hb) hkt
    have hn1 := Nat.le_trans (bd2 hb) hnt
    replace hb := bdA hb
    refine x_callX (pc := 305) (As := [V a5, V a6]) (rest := []) (mc' := 1) (ms' := 6) (dK D_Law_forms_3 15 rfl) Q_Law_218 sx_FP_pageOf (fitK rfl) (isK_at (Z := (e90.1, e90.2)) (ci := 10) isK0) rfl (leK rfl) hk1 hn1 (clTI hz_p91 (fun E => tf_FP_pageOf (X := xz e90.2) rfl xz_hc ha5 ha6 e_p91)) (kxI' (fun h_p91 => ?_))
    refine wx_iconst (pc := 308) (dK D_Law_forms_3 16 rfl) ?_
    refine wx_icmp_ne (pc := 309) (t := 334) (dK D_Law_forms_3 17 rfl) rfl h_p91 (inRk rfl) (fun hc117 => ?_) (fun hc117 => ?_)
    · replace h := ifN h hc117
      refine wx_iconst (pc := 334) (dK D_Law_forms_3 29 rfl) ?_
      obtain rfl := Option.some.inj h
      exact wk_iretB (pc := 335) (b := false) (dK D_Law_forms_3 30 rfl) rfl (Nat.le_trans (bdk hb) hkt) (Nat.le_trans (bdn hb) hnt) (hr (false, (e90.1, e90.2)) rfl)
    · replace h := ifP h hc117
      refine x_aloadn (pc := 312) (i0 := 0) (j := 0) (dK D_Law_forms_3 18 rfl) rfl rfl ?_
      refine x_iload (pc := 313) (j := 4) (dK D_Law_forms_3 19 rfl) rfl ?_
      refine wx_iconst (pc := 315) (dK D_Law_forms_3 20 rfl) ?_
      refine bnE h ?_
      clear h
      intro p92 e_p92 h
      refine gdE h ?_
      clear h
      intro hz_p92 h
      obtain ⟨yp92, h9, e9⟩ := adE2 h
      clear h
      subst e9
      have h := h9
      clear h9
      have hk1 := Nat.le_trans (bd1 hb) hkt
      have hn1 := Nat.le_trans (bd2 hb) hnt
      replace hb := bdA hb
      refine x_callX (pc := 316) (As := [V a5, V (-1)]) (rest := []) (mc' := 1) (ms' := 6) (dK D_Law_forms_3 21 rfl) Q_Law_218 sx_FP_pageOf (fitK rfl) (isK_at (Z := (e90.1, e90.2)) (ci := 10) isK0) rfl (leK rfl) hk1 hn1 (clTI hz_p92 (fun E => tf_FP_pageOf (X := xz e90.2) rfl xz_hc ha5 (inRk rfl) e_p92)) (kxI' (fun h_p92 => ?_))
      refine wx_iconst (pc := 319) (dK D_Law_forms_3 22 rfl) ?_
      refine wx_icmp_ne (pc := 320) (t := 334) (dK D_Law_forms_3 23 rfl) rfl h_p92 (inRk rfl) (fun hc116 => ?_) (fun hc116 => ?_)
      · replace h := ifN h hc116
        refine wx_iconst (pc := 334) (dK D_Law_forms_3 29 rfl) ?_
        obtain rfl := Option.some.inj h
        exact wk_iretB (pc := 335) (b := false) (dK D_Law_forms_3 30 rfl) rfl (Nat.le_trans (bdk hb) hkt) (Nat.le_trans (bdn hb) hnt) (hr (false, (e90.1, e90.2)) rfl)
      · replace h := ifP h hc116
        refine x_aloadn (pc := 323) (i0 := 0) (j := 0) (dK D_Law_forms_3 24 rfl) rfl rfl ?_
        refine x_iload (pc := 324) (j := 4) (dK D_Law_forms_3 25 rfl) rfl ?_
        refine bnE h ?_
        clear h
        intro p93 e_p93 h
        refine gdE h ?_
        clear h
        intro hz_p93 h
        obtain ⟨yp93, h9, e9⟩ := adE2 h
        clear h
        subst e9
        have h := h9
        clear h9
        have hk1 := Nat.le_trans (bd1 hb) hkt
        have hn1 := Nat.le_trans (bd2 hb) hnt
        replace hb := bdA hb
        refine x_callX (pc := 326) (As := [V a5]) (rest := []) (mc' := 1) (ms' := 6) (dK D_Law_forms_3 26 rfl) Q_Law_234 sx_FP_revenueOf (fitK rfl) (isK_at (Z := (e90.1, e90.2)) (ci := 10) isK0) rfl (leK rfl) hk1 hn1 (clTI hz_p93 (fun E => tf_FP_revenueOf (X := xz e90.2) rfl xz_hc ha5 e_p93)) (kxI' (fun h_p93 => ?_))
        refine x_iload (pc := 329) (j := 6) (dK D_Law_forms_3 27 rfl) rfl ?_
        refine wx_icmp_eq (pc := 331) (t := 336) (dK D_Law_forms_3 28 rfl) rfl h_p93 ha8 (fun hc115 => ?_) (fun hc115 => ?_)
        · replace h := ifP h hc115
          refine x_aloadn (pc := 336) (i0 := 1) (j := 1) (dK D_Law_forms_3 31 rfl) rfl rfl ?_
          refine bnE h ?_
          clear h
          intro v94 e_v94 h
          refine wx_getV (pc := 337) (ci := 12) (f := 8) e_v94 (dK D_Law_forms_3 32 rfl) q_784 (ltK rfl) (ltK rfl) (fun hv94 => ?_)
          refine x_iload (pc := 340) (j := 4) (dK D_Law_forms_3 33 rfl) rfl ?_
          refine rfE h ?_
          clear h
          intro r95 e_r95 h
          rw [e_r95]
          refine bnE h ?_
          clear h
          intro v96 e_v96 h
          refine wx_zald (pc := 342) e_v96 ha5 (dK D_Law_forms_3 34 rfl) ?_
          refine wx_if_ne (pc := 343) (t := 381) (dK D_Law_forms_3 35 rfl) rfl (vI_at e_v96).2 (fun hc114 => ?_) (fun hc114 => ?_)
          · replace h := ifN h hc114
            refine x_iloadn (pc := 381) (i0 := 2) (j := 2) (dK D_Law_forms_4 4 rfl) rfl rfl ?_
            refine x_istoren (pc := 382) (i0 := 2) (ls2 := [(2, V a2), (0, .ref 0), (1, .ref c1), (4, .ref c4), (5, V a5), (6, V a6), (8, V a8)]) (dK D_Law_forms_4 5 rfl) rfl (ltK rfl) rfl ?_
            refine nmE h ?_
            clear h
            intro v97 e_v97 h
            refine wx_iinc (pc := 383) (j := 4) (a := a5) (z := 1) (ls2 := [(5, V v97), (2, V a2), (0, .ref 0), (1, .ref c1), (4, .ref c4), (6, V a6), (8, V a8)]) (dK D_Law_forms_4 6 rfl) rfl e_v97 (ltK rfl) rfl ?_
            refine x_goto (pc := 386) (tgt := 13) (dK D_Law_forms_4 7 rfl) rfl ?_
            refine x_weak (ls' := [(0, .ref 0), (1, .ref c1), (2, V a2), (4, .ref c4), (5, V v97)]) (sbc 2 rfl (sbc 3 rfl (sbc 1 rfl (sbc 4 rfl (sbc 0 rfl sbn))))) ?_
            replace h := ih _ _ h
            exact h _ _ hb ha2 (Vn_in e_v97) hx hr
          · replace h := ifP h hc114
            refine x_aloadn (pc := 346) (i0 := 1) (j := 1) (dK D_Law_forms_3 36 rfl) rfl rfl ?_
            refine bnE h ?_
            clear h
            intro v98 e_v98 h
            refine wx_getV (pc := 347) (ci := 12) (f := 9) e_v98 (dK D_Law_forms_3 37 rfl) q_786 (ltK rfl) (ltK rfl) (fun hv98 => ?_)
            refine x_iload (pc := 350) (j := 4) (dK D_Law_forms_3 38 rfl) rfl ?_
            refine rfE h ?_
            clear h
            intro r99 e_r99 h
            rw [e_r99]
            refine bnE h ?_
            clear h
            intro v100 e_v100 h
            refine wx_iald (pc := 352) e_v100 ha5 (dK D_Law_forms_3 39 rfl) ?_
            refine wx_if_lt (pc := 353) (t := 381) (dK D_Law_forms_3 40 rfl) rfl (vI_at e_v100).2 (fun hc113 => ?_) (fun hc113 => ?_)
            · replace h := ifP h hc113
              refine x_iloadn (pc := 381) (i0 := 2) (j := 2) (dK D_Law_forms_4 4 rfl) rfl rfl ?_
              refine x_istoren (pc := 382) (i0 := 2) (ls2 := [(2, V a2), (0, .ref 0), (1, .ref c1), (4, .ref c4), (5, V a5), (6, V a6), (8, V a8)]) (dK D_Law_forms_4 5 rfl) rfl (ltK rfl) rfl ?_
              refine nmE h ?_
              clear h
              intro v101 e_v101 h
              refine wx_iinc (pc := 383) (j := 4) (a := a5) (z := 1) (ls2 := [(5, V v101), (2, V a2), (0, .ref 0), (1, .ref c1), (4, .ref c4), (6, V a6), (8, V a8)]) (dK D_Law_forms_4 6 rfl) rfl e_v101 (ltK rfl) rfl ?_
              refine x_goto (pc := 386) (tgt := 13) (dK D_Law_forms_4 7 rfl) rfl ?_
              refine x_weak (ls' := [(0, .ref 0), (1, .ref c1), (2, V a2), (4, .ref c4), (5, V v101)]) (sbc 2 rfl (sbc 3 rfl (sbc 1 rfl (sbc 4 rfl (sbc 0 rfl sbn))))) ?_
              replace h := ih _ _ h
              exact h _ _ hb ha2 (Vn_in e_v101) hx hr
            · replace h := ifN h hc113
              refine x_iloadn (pc := 356) (i0 := 2) (j := 2) (dK D_Law_forms_3 41 rfl) rfl rfl ?_
              refine wx_if_lt (pc := 357) (t := 376) (dK D_Law_forms_3 42 rfl) rfl ha2 (fun hc112 => ?_) (fun hc112 => ?_)
              · replace h := ifP h hc112
                refine x_iload (pc := 376) (j := 4) (dK D_Law_forms_4 2 rfl) rfl ?_
                refine x_goto (pc := 378) (tgt := 382) (dK D_Law_forms_4 3 rfl) rfl ?_
                refine x_istoren (pc := 382) (i0 := 2) (ls2 := [(2, V a5), (0, .ref 0), (1, .ref c1), (4, .ref c4), (5, V a5), (6, V a6), (8, V a8)]) (dK D_Law_forms_4 5 rfl) rfl (ltK rfl) rfl ?_
                refine nmE h ?_
                clear h
                intro v102 e_v102 h
                refine wx_iinc (pc := 383) (j := 4) (a := a5) (z := 1) (ls2 := [(5, V v102), (2, V a5), (0, .ref 0), (1, .ref c1), (4, .ref c4), (6, V a6), (8, V a8)]) (dK D_Law_forms_4 6 rfl) rfl e_v102 (ltK rfl) rfl ?_
                refine x_goto (pc := 386) (tgt := 13) (dK D_Law_forms_4 7 rfl) rfl ?_
                refine x_weak (ls' := [(0, .ref 0), (1, .ref c1), (2, V a5), (4, .ref c4), (5, V v102)]) (sbc 2 rfl (sbc 3 rfl (sbc 1 rfl (sbc 4 rfl (sbc 0 rfl sbn))))) ?_
                replace h := ih _ _ h
                exact h _ _ hb ha5 (Vn_in e_v102) hx hr
              · replace h := ifN h hc112
                refine x_aloadn (pc := 360) (i0 := 1) (j := 1) (dK D_Law_forms_3 43 rfl) rfl rfl ?_
                refine bnE h ?_
                clear h
                intro v103 e_v103 h
                refine wx_getV (pc := 361) (ci := 12) (f := 9) e_v103 (dK D_Law_forms_3 44 rfl) q_786 (ltK rfl) (ltK rfl) (fun hv103 => ?_)
                refine x_iload (pc := 364) (j := 4) (dK D_Law_forms_3 45 rfl) rfl ?_
                refine rfE h ?_
                clear h
                intro r104 e_r104 h
                rw [e_r104]
                refine bnE h ?_
                clear h
                intro v105 e_v105 h
                refine wx_iald (pc := 366) e_v105 ha5 (dK D_Law_forms_3 46 rfl) ?_
                refine x_aloadn (pc := 367) (i0 := 1) (j := 1) (dK D_Law_forms_3 47 rfl) rfl rfl ?_
                refine bnE h ?_
                clear h
                intro v106 e_v106 h
                refine wx_getV (pc := 368) (ci := 12) (f := 9) e_v106 (dK D_Law_forms_3 48 rfl) q_786 (ltK rfl) (ltK rfl) (fun hv106 => ?_)
                refine x_iloadn (pc := 371) (i0 := 2) (j := 2) (dK D_Law_forms_3 49 rfl) rfl rfl ?_
                refine rfE h ?_
                clear h
                intro r107 e_r107 h
                rw [e_r107]
                refine bnE h ?_
                clear h
                intro v108 e_v108 h
                refine wx_iald (pc := 372) e_v108 ha2 (dK D_Law_forms_4 0 rfl) ?_
                refine wx_icmp_ge (pc := 373) (t := 381) (dK D_Law_forms_4 1 rfl) rfl (vI_at e_v105).2 (vI_at e_v108).2 (fun hc111 => ?_) (fun hc111 => ?_)
                · replace h := ifP h hc111
                  refine x_iloadn (pc := 381) (i0 := 2) (j := 2) (dK D_Law_forms_4 4 rfl) rfl rfl ?_
                  refine x_istoren (pc := 382) (i0 := 2) (ls2 := [(2, V a2), (0, .ref 0), (1, .ref c1), (4, .ref c4), (5, V a5), (6, V a6), (8, V a8)]) (dK D_Law_forms_4 5 rfl) rfl (ltK rfl) rfl ?_
                  refine nmE h ?_
                  clear h
                  intro v109 e_v109 h
                  refine wx_iinc (pc := 383) (j := 4) (a := a5) (z := 1) (ls2 := [(5, V v109), (2, V a2), (0, .ref 0), (1, .ref c1), (4, .ref c4), (6, V a6), (8, V a8)]) (dK D_Law_forms_4 6 rfl) rfl e_v109 (ltK rfl) rfl ?_
                  refine x_goto (pc := 386) (tgt := 13) (dK D_Law_forms_4 7 rfl) rfl ?_
                  refine x_weak (ls' := [(0, .ref 0), (1, .ref c1), (2, V a2), (4, .ref c4), (5, V v109)]) (sbc 2 rfl (sbc 3 rfl (sbc 1 rfl (sbc 4 rfl (sbc 0 rfl sbn))))) ?_
                  replace h := ih _ _ h
                  exact h _ _ hb ha2 (Vn_in e_v109) hx hr
                · replace h := ifN h hc111
                  refine x_iload (pc := 376) (j := 4) (dK D_Law_forms_4 2 rfl) rfl ?_
                  refine x_goto (pc := 378) (tgt := 382) (dK D_Law_forms_4 3 rfl) rfl ?_
                  refine x_istoren (pc := 382) (i0 := 2) (ls2 := [(2, V a5), (0, .ref 0), (1, .ref c1), (4, .ref c4), (5, V a5), (6, V a6), (8, V a8)]) (dK D_Law_forms_4 5 rfl) rfl (ltK rfl) rfl ?_
                  refine nmE h ?_
                  clear h
                  intro v110 e_v110 h
                  refine wx_iinc (pc := 383) (j := 4) (a := a5) (z := 1) (ls2 := [(5, V v110), (2, V a5), (0, .ref 0), (1, .ref c1), (4, .ref c4), (6, V a6), (8, V a8)]) (dK D_Law_forms_4 6 rfl) rfl e_v110 (ltK rfl) rfl ?_
                  refine x_goto (pc := 386) (tgt := 13) (dK D_Law_forms_4 7 rfl) rfl ?_
                  refine x_weak (ls' := [(0, .ref 0), (1, .ref c1), (2, V a5), (4, .ref c4), (5, V v110)]) (sbc 2 rfl (sbc 3 rfl (sbc 1 rfl (sbc 4 rfl (sbc 0 rfl sbn))))) ?_
                  replace h := ih _ _ h
                  exact h _ _ hb ha5 (Vn_in e_v110) hx hr
        · replace h := ifN h hc115
          refine wx_iconst (pc := 334) (dK D_Law_forms_3 29 rfl) ?_
          obtain rfl := Option.some.inj h
          exact wk_iretB (pc := 335) (b := false) (dK D_Law_forms_3 30 rfl) rfl (Nat.le_trans (bdk hb) hkt) (Nat.le_trans (bdn hb) hnt) (hr (false, (e90.1, e90.2)) rfl)
def jf2_Law_forms_202_13 (c1 : Nat) (c4 : Nat) (go : Int × Int × LZ → Option (((Bool × LZ) ⊕ (Int × LZ)) × Nat × Nat)) (a2 : Int) (a5 : Int) (a6 : Int) (a7 : Int) (a8 : Int) (st0 : Int) (st1 : Int) (ct2 : Nat) (ct3 : Nat) (S : St) (L : List PC) : Option (((Bool × LZ) ⊕ (Int × LZ)) × Nat × Nat) := bnO (ast L 100 ct2 st1 (V st0)) fun L66 => bnO (gfV L66 c1 12 9) fun v67 => rfB v67 fun r68 => bnO (ald L66 0 r68 a5) fun v69 => bnO (ast L66 100 ct3 2 (V v69)) fun L70 => bnO (ast L70 100 ct3 3 (V a6)) fun L71 => bnO (ald L71 0 c4 a5) fun v72 => bnO (ast L71 100 ct3 4 (V v72)) fun L73 => bnO (ast L73 100 ct3 5 (V a7)) fun L74 => if isK L74 c1 12 = true then (bnO (gn_LP_late c1 a5 S L74) fun p75 => adC p75.2.1 p75.2.2 (bnO (ast p75.1.2.2 100 ct3 6 (V p75.1.1)) fun L77 => if isK L77 c1 12 = true then (bnO (gn_LP_hasColor c1 a5 p75.1.2.1 L77) fun p78 => adC p78.2.1 p78.2.2 (if p78.1.1 = true then (jf2_Law_forms_258_13 c1 c4 go a2 a5 a6 a8 1 7 ct3 ct3 p78.1.2.1 p78.1.2.2) else (jf2_Law_forms_258_13 c1 c4 go a2 a5 a6 a8 0 7 ct3 ct3 p78.1.2.1 p78.1.2.2))) else none)) else none
theorem tj2_Law_forms_202_13 {sc : SC} {c1 : Nat} {c4 : Nat} {K : Option Value → List PC → Prop} {mc ms kt nt : Nat} (hkt : kt ≤ mc) (hnt : nt ≤ ms) {go : Int × Int × LZ → Option (((Bool × LZ) ⊕ (Int × LZ)) × Nat × Nat)} (ih : ∀ (a : Int × Int × LZ) (q : ((Bool × LZ) ⊕ (Int × LZ)) × Nat × Nat), go a = some q → ∀ k n, Bd k n kt nt q → inR a.1 → inR a.2.1 → (∀ e, q.1 = .inr e → inR e.1 → GX sc M_Law_forms mc ms 389 [(0, .ref 0), (1, .ref c1), (2, V e.1), (4, .ref c4)] [] (wz e.2) kt nt K) → (∀ r, q.1 = .inl r → K (some (V (bi r.1))) (wz r.2)) → GX sc M_Law_forms mc ms 13 [(0, .ref 0), (1, .ref c1), (2, V a.1), (4, .ref c4), (5, V a.2.1)] [] (wz a.2.2) k n K) {a2 : Int} (ha2 : inR a2) {a5 : Int} (ha5 : inR a5) {a6 : Int} (ha6 : inR a6) {a7 : Int} (ha7 : inR a7) {a8 : Int} (ha8 : inR a8) {st0 : Int} (hst0 : inR st0) {st1 : Int} (hst1 : inR st1) {ct2 : Nat} {ct3 : Nat} {S : St} {L : List PC} {q : ((Bool × LZ) ⊕ (Int × LZ)) × Nat × Nat} (h : jf2_Law_forms_202_13 c1 c4 go a2 a5 a6 a7 a8 st0 st1 ct2 ct3 S L = some q) {k n : Nat} (hb : Bd k n kt nt q) (hx : (∀ e, q.1 = .inr e → inR e.1 → GX sc M_Law_forms mc ms 389 [(0, .ref 0), (1, .ref c1), (2, V e.1), (4, .ref c4)] [] (wz e.2) kt nt K)) (hr : (∀ r, q.1 = .inl r → K (some (V (bi r.1))) (wz r.2))) : GX sc M_Law_forms mc ms 202 [(0, .ref 0), (1, .ref c1), (2, V a2), (4, .ref c4), (5, V a5), (6, V a6), (7, V a7), (8, V a8)] [V st0, V st1, .ref ct2, .ref ct3] (wz (S, L)) k n K := by
  unfold jf2_Law_forms_202_13 at h
  refine bnE h ?_
  clear h
  intro L66 e_L66 h
  refine wx_iast (Z := (S, L)) (pc := 202) (z := st0) e_L66 hst1 (dK D_Law_forms_2 2 rfl) ?_
  refine x_dup (pc := 203) (dK D_Law_forms_2 3 rfl) rfl ?_
  refine wx_iconst (pc := 204) (dK D_Law_forms_2 4 rfl) ?_
  refine x_aloadn (pc := 205) (i0 := 1) (j := 1) (dK D_Law_forms_2 5 rfl) rfl rfl ?_
  refine bnE h ?_
  clear h
  intro v67 e_v67 h
  refine wx_getV (pc := 206) (ci := 12) (f := 9) e_v67 (dK D_Law_forms_2 6 rfl) q_786 (ltK rfl) (ltK rfl) (fun hv67 => ?_)
  refine x_iload (pc := 209) (j := 4) (dK D_Law_forms_2 7 rfl) rfl ?_
  refine rfE h ?_
  clear h
  intro r68 e_r68 h
  rw [e_r68]
  refine bnE h ?_
  clear h
  intro v69 e_v69 h
  refine wx_iald (pc := 211) e_v69 ha5 (dK D_Law_forms_2 8 rfl) ?_
  refine bnE h ?_
  clear h
  intro L70 e_L70 h
  refine wx_iast (Z := (S, L66)) (pc := 212) (z := v69) e_L70 (inRk rfl) (dK D_Law_forms_2 9 rfl) ?_
  refine x_dup (pc := 213) (dK D_Law_forms_2 10 rfl) rfl ?_
  refine wx_iconst (pc := 214) (dK D_Law_forms_2 11 rfl) ?_
  refine x_iload (pc := 215) (j := 5) (dK D_Law_forms_2 12 rfl) rfl ?_
  refine bnE h ?_
  clear h
  intro L71 e_L71 h
  refine wx_iast (Z := (S, L70)) (pc := 217) (z := a6) e_L71 (inRk rfl) (dK D_Law_forms_2 13 rfl) ?_
  refine x_dup (pc := 218) (dK D_Law_forms_2 14 rfl) rfl ?_
  refine wx_iconst (pc := 219) (dK D_Law_forms_2 15 rfl) ?_
  refine x_aload (pc := 220) (j := 3) (dK D_Law_forms_2 16 rfl) rfl ?_
  refine x_iload (pc := 222) (j := 4) (dK D_Law_forms_2 17 rfl) rfl ?_
  refine bnE h ?_
  clear h
  intro v72 e_v72 h
  refine wx_iald (pc := 224) e_v72 ha5 (dK D_Law_forms_2 18 rfl) ?_
  refine bnE h ?_
  clear h
  intro L73 e_L73 h
  refine wx_iast (Z := (S, L71)) (pc := 225) (z := v72) e_L73 (inRk rfl) (dK D_Law_forms_2 19 rfl) ?_
  refine x_dup (pc := 226) (dK D_Law_forms_2 20 rfl) rfl ?_
  refine wx_iconst (pc := 227) (dK D_Law_forms_2 21 rfl) ?_
  refine x_iload (pc := 228) (j := 6) (dK D_Law_forms_2 22 rfl) rfl ?_
  refine bnE h ?_
  clear h
  intro L74 e_L74 h
  refine wx_iast (Z := (S, L73)) (pc := 230) (z := a7) e_L74 (inRk rfl) (dK D_Law_forms_2 23 rfl) ?_
  refine x_dup (pc := 231) (dK D_Law_forms_2 24 rfl) rfl ?_
  refine wx_bipush (pc := 232) (dK D_Law_forms_2 25 rfl) rfl ?_
  refine x_aloadn (pc := 234) (i0 := 1) (j := 1) (dK D_Law_forms_2 26 rfl) rfl rfl ?_
  refine x_iload (pc := 235) (j := 4) (dK D_Law_forms_2 27 rfl) rfl ?_
  refine gdE h ?_
  clear h
  intro hk76 h
  refine bnE h ?_
  clear h
  intro p75 e_p75 h
  obtain ⟨yp75, h9, e9⟩ := adE2 h
  clear h
  subst e9
  have h := h9
  clear h9
  have hk1 := Nat.le_trans (bd1 hb) hkt
  have hn1 := Nat.le_trans (bd2 hb) hnt
  replace hb := bdA hb
  refine x_callX (pc := 237) (As := [V a5]) (rest := [V 6, .ref ct3, .ref ct3]) (mc' := p75.2.1) (ms' := p75.2.2) (dK D_Law_forms_2 28 rfl) Q_Law_225 sx_LP_late (fitK rfl) (isK_at (Z := (S, L74)) (ci := 12) hk76) rfl (leK rfl) hk1 hn1 (tg_LP_late ha5 e_p75) (kxI' (fun h_p75 => ?_))
  refine bnE h ?_
  clear h
  intro L77 e_L77 h
  refine wx_iast (Z := (p75.1.2.1, p75.1.2.2)) (pc := 240) (z := p75.1.1) e_L77 (inRk rfl) (dK D_Law_forms_2 29 rfl) ?_
  refine x_dup (pc := 241) (dK D_Law_forms_2 30 rfl) rfl ?_
  refine wx_bipush (pc := 242) (dK D_Law_forms_2 31 rfl) rfl ?_
  refine x_aloadn (pc := 244) (i0 := 1) (j := 1) (dK D_Law_forms_2 32 rfl) rfl rfl ?_
  refine x_iload (pc := 245) (j := 4) (dK D_Law_forms_2 33 rfl) rfl ?_
  refine gdE h ?_
  clear h
  intro hk79 h
  refine bnE h ?_
  clear h
  intro p78 e_p78 h
  obtain ⟨yp78, h9, e9⟩ := adE2 h
  clear h
  subst e9
  have h := h9
  clear h9
  have hk1 := Nat.le_trans (bd1 hb) hkt
  have hn1 := Nat.le_trans (bd2 hb) hnt
  replace hb := bdA hb
  refine x_callX (pc := 247) (As := [V a5]) (rest := [V 7, .ref ct3, .ref ct3]) (mc' := p78.2.1) (ms' := p78.2.2) (dK D_Law_forms_2 34 rfl) Q_Law_228 sx_LP_hasColor (fitK rfl) (isK_at (Z := (p75.1.2.1, L77)) (ci := 12) hk79) rfl (leK rfl) hk1 hn1 (tg_LP_hasColor ha5 e_p78) (kxB' ?_)
  refine wx_ifB_eq (pc := 250) (b := p78.1.1) (t := 257) (dK D_Law_forms_2 35 rfl) rfl (fun hc80 => ?_) (fun hc80 => ?_)
  · replace h := ifP h hc80
    refine wx_iconst (pc := 253) (dK D_Law_forms_2 36 rfl) ?_
    refine x_goto (pc := 254) (tgt := 258) (dK D_Law_forms_2 37 rfl) rfl ?_
    refine x_weak (ls' := [(0, .ref 0), (1, .ref c1), (2, V a2), (4, .ref c4), (5, V a5), (6, V a6), (8, V a8)]) (sbc 0 rfl (sbc 1 rfl (sbc 2 rfl (sbc 3 rfl (sbc 4 rfl (sbc 5 rfl (sbc 7 rfl sbn))))))) ?_
    exact tj2_Law_forms_258_13 hkt hnt ih ha2 ha5 ha6 ha8 (inRk rfl) (inRk rfl) h hb hx hr
  · replace h := ifN h hc80
    refine wx_iconst (pc := 257) (dK D_Law_forms_2 38 rfl) ?_
    refine x_weak (ls' := [(0, .ref 0), (1, .ref c1), (2, V a2), (4, .ref c4), (5, V a5), (6, V a6), (8, V a8)]) (sbc 0 rfl (sbc 1 rfl (sbc 2 rfl (sbc 3 rfl (sbc 4 rfl (sbc 5 rfl (sbc 7 rfl sbn))))))) ?_
    exact tj2_Law_forms_258_13 hkt hnt ih ha2 ha5 ha6 ha8 (inRk rfl) (inRk rfl) h hb hx hr
def lb2_Law_forms_13 (c1 : Nat) (c4 : Nat) (go : Int × Int × LZ → Option (((Bool × LZ) ⊕ (Int × LZ)) × Nat × Nat)) (a2 : Int) (a5 : Int) (S : St) (L : List PC) : Option (((Bool × LZ) ⊕ (Int × LZ)) × Nat × Nat) := bnO (gfI L c1 12 0) fun v6 => nm (wr (2 * v6)) fun v7 => if v7 ≤ a5 then (some (.inr (a2, (S, L)), 0, 0)) else (bnT (lo2_Law_forms_36 c1 a2 c4 a5 FU (0, 0, 0, 1, (S, L))) (fun r52 => some (.inl (r52.1, (r52.2.1, r52.2.2)), 0, 0)) fun e53 => if (0 : Int) ≤ 9 ∧ (9 : Int) ≤ 16384 then (if e53.2.2.2.2.length < 900000000 then adC 1 (9 : Int).toNat (nw e53.2.2.2.2 (100, List.replicate (9 : Int).toNat (.int 0)) fun r57 L58 => bnO (gfV L58 c1 12 7) fun v59 => rfB v59 fun r60 => bnO (ald L58 2 r60 a5) fun v61 => if v61 = 0 then (bnO (ast L58 100 r57 0 (V 0)) fun L62 => bnO (gfV L62 c1 12 8) fun v63 => rfB v63 fun r64 => bnO (ald L62 2 r64 a5) fun v65 => if v65 = 0 then (jf2_Law_forms_202_13 c1 c4 go a2 a5 e53.1 e53.2.1 e53.2.2.1 0 1 r57 r57 e53.2.2.2.1 L62) else (jf2_Law_forms_202_13 c1 c4 go a2 a5 e53.1 e53.2.1 e53.2.2.1 1 1 r57 r57 e53.2.2.2.1 L62)) else (bnO (ast L58 100 r57 0 (V 1)) fun L119 => bnO (gfV L119 c1 12 8) fun v120 => rfB v120 fun r121 => bnO (ald L119 2 r121 a5) fun v122 => if v122 = 0 then (jf2_Law_forms_202_13 c1 c4 go a2 a5 e53.1 e53.2.1 e53.2.2.1 0 1 r57 r57 e53.2.2.2.1 L119) else (jf2_Law_forms_202_13 c1 c4 go a2 a5 e53.1 e53.2.1 e53.2.2.1 1 1 r57 r57 e53.2.2.2.1 L119))) else none) else none)
def lo2_Law_forms_13 (c1 : Nat) (c4 : Nat) : Nat → Int × Int × LZ → Option (((Bool × LZ) ⊕ (Int × LZ)) × Nat × Nat) := lp fun go p => lb2_Law_forms_13 c1 c4 go p.1 p.2.1 p.2.2.1 p.2.2.2
theorem tl2_Law_forms_13 {sc : SC} {c1 : Nat} {c4 : Nat} {K : Option Value → List PC → Prop} {mc ms kt nt : Nat} (hkt : kt ≤ mc) (hnt : nt ≤ ms) : ∀ (N : Nat) (a : Int × Int × LZ) (q : ((Bool × LZ) ⊕ (Int × LZ)) × Nat × Nat), lo2_Law_forms_13 c1 c4 N a = some q → ∀ k n, Bd k n kt nt q → inR a.1 → inR a.2.1 → (∀ e, q.1 = .inr e → inR e.1 → GX sc M_Law_forms mc ms 389 [(0, .ref 0), (1, .ref c1), (2, V e.1), (4, .ref c4)] [] (wz e.2) kt nt K) → (∀ r, q.1 = .inl r → K (some (V (bi r.1))) (wz r.2)) → GX sc M_Law_forms mc ms 13 [(0, .ref 0), (1, .ref c1), (2, V a.1), (4, .ref c4), (5, V a.2.1)] [] (wz a.2.2) k n K := by
  refine lp_ind2 (P := fun (a : Int × Int × LZ) (q : ((Bool × LZ) ⊕ (Int × LZ)) × Nat × Nat) => ∀ k n, Bd k n kt nt q → inR a.1 → inR a.2.1 → (∀ e, q.1 = .inr e → inR e.1 → GX sc M_Law_forms mc ms 389 [(0, .ref 0), (1, .ref c1), (2, V e.1), (4, .ref c4)] [] (wz e.2) kt nt K) → (∀ r, q.1 = .inl r → K (some (V (bi r.1))) (wz r.2)) → GX sc M_Law_forms mc ms 13 [(0, .ref 0), (1, .ref c1), (2, V a.1), (4, .ref c4), (5, V a.2.1)] [] (wz a.2.2) k n K) (fun go ih a q h => ?_)
  obtain ⟨a2, a5, ⟨S, L⟩⟩ := a
  intro k n hb ha2 ha5 hx hr
  show GX sc M_Law_forms mc ms 13 [(0, .ref 0), (1, .ref c1), (2, V a2), (4, .ref c4), (5, V a5)] [] (wz (S, L)) k n K
  replace h : lb2_Law_forms_13 c1 c4 go a2 a5 S L = some q := h
  unfold lb2_Law_forms_13 at h
  refine x_iload (pc := 13) (j := 4) (dK D_Law_forms_0 9 rfl) rfl ?_
  refine wx_iconst (pc := 15) (dK D_Law_forms_0 10 rfl) ?_
  refine x_aloadn (pc := 16) (i0 := 1) (j := 1) (dK D_Law_forms_0 11 rfl) rfl rfl ?_
  refine bnE h ?_
  clear h
  intro v6 e_v6 h
  refine wx_getI (pc := 17) (ci := 12) (f := 0) e_v6 (dK D_Law_forms_0 12 rfl) q_768 (ltK rfl) (ltK rfl) ?_
  refine wx_imul (pc := 20) (dK D_Law_forms_0 13 rfl) ?_
  refine nmE h ?_
  clear h
  intro v7 e_v7 h
  refine wtop e_v7 ?_
  refine wx_icmp_ge (pc := 21) (t := 389) (dK D_Law_forms_0 14 rfl) rfl ha5 (Vn_in e_v7) (fun hc125 => ?_) (fun hc125 => ?_)
  · replace h := ifP h hc125
    obtain rfl := Option.some.inj h
    refine x_weak (ls' := [(0, .ref 0), (1, .ref c1), (2, V a2), (4, .ref c4)]) (sbc 0 rfl (sbc 1 rfl (sbc 2 rfl (sbc 3 rfl sbn)))) ?_
    refine x_room (bdk hb) (bdn hb) ?_
    exact hx (a2, (S, L)) rfl ha2
  · replace h := ifN h hc125
    refine wx_iconst (pc := 24) (dK D_Law_forms_0 15 rfl) ?_
    refine x_istore (pc := 25) (ls2 := [(6, V 0), (0, .ref 0), (1, .ref c1), (2, V a2), (4, .ref c4), (5, V a5)]) (dK D_Law_forms_0 16 rfl) (ltK rfl) rfl ?_
    refine wx_iconst (pc := 27) (dK D_Law_forms_0 17 rfl) ?_
    refine x_istore (pc := 28) (ls2 := [(7, V 0), (6, V 0), (0, .ref 0), (1, .ref c1), (2, V a2), (4, .ref c4), (5, V a5)]) (dK D_Law_forms_0 18 rfl) (ltK rfl) rfl ?_
    refine wx_iconst (pc := 30) (dK D_Law_forms_0 19 rfl) ?_
    refine x_istore (pc := 31) (ls2 := [(8, V 0), (7, V 0), (6, V 0), (0, .ref 0), (1, .ref c1), (2, V a2), (4, .ref c4), (5, V a5)]) (dK D_Law_forms_0 20 rfl) (ltK rfl) rfl ?_
    refine wx_iconst (pc := 33) (dK D_Law_forms_0 21 rfl) ?_
    refine x_istore (pc := 34) (ls2 := [(9, V 1), (8, V 0), (7, V 0), (6, V 0), (0, .ref 0), (1, .ref c1), (2, V a2), (4, .ref c4), (5, V a5)]) (dK D_Law_forms_0 22 rfl) (ltK rfl) rfl ?_
    refine bnTE h ?_ ?_
    · clear h
      intro p51 r52 yp51 e_p51 f_p51 h e9
      subst e9
      have hk1 := Nat.le_trans (bd1 hb) hkt
      have hn1 := Nat.le_trans (bd2 hb) hnt
      replace hb := bdA hb
      refine x_weak (ls' := [(0, .ref 0), (1, .ref c1), (2, V a2), (4, .ref c4), (5, V a5), (6, V 0), (7, V 0), (8, V 0), (9, V 1)]) (sbc 4 rfl (sbc 5 rfl (sbc 6 rfl (sbc 7 rfl (sbc 8 rfl (sbc 3 rfl (sbc 2 rfl (sbc 1 rfl (sbc 0 rfl sbn))))))))) ?_
      refine tl2_Law_forms_36 ha2 ha5 hk1 hn1 FU _ _ e_p51 _ _ ⟨Nat.le_refl _, Nat.le_refl _⟩ (inRk rfl) (inRk rfl) (inRk rfl) (inRk rfl) (fun _ g_ => by rw [f_p51] at g_; exact nomatch g_) (fun r_ g_  => ?_)
      obtain rfl := Sum.inl.inj (f_p51.symm.trans g_)
      obtain rfl := Option.some.inj h
      exact hr (r52.1, (r52.2.1, r52.2.2)) rfl
    · clear h
      intro p51 e53 yp51 e_p51 f_p51 h e9
      subst e9
      have hk1 := Nat.le_trans (bd1 hb) hkt
      have hn1 := Nat.le_trans (bd2 hb) hnt
      replace hb := bdA hb
      refine x_weak (ls' := [(0, .ref 0), (1, .ref c1), (2, V a2), (4, .ref c4), (5, V a5), (6, V 0), (7, V 0), (8, V 0), (9, V 1)]) (sbc 4 rfl (sbc 5 rfl (sbc 6 rfl (sbc 7 rfl (sbc 8 rfl (sbc 3 rfl (sbc 2 rfl (sbc 1 rfl (sbc 0 rfl sbn))))))))) ?_
      refine tl2_Law_forms_36 ha2 ha5 hk1 hn1 FU _ _ e_p51 _ _ ⟨Nat.le_refl _, Nat.le_refl _⟩ (inRk rfl) (inRk rfl) (inRk rfl) (inRk rfl) (fun e_ g_ hx6_p51 hx7_p51 hx8_p51 => ?_) (fun _ g_ => by rw [f_p51] at g_; exact nomatch g_)
      obtain rfl := Sum.inr.inj (f_p51.symm.trans g_)
      refine wx_bipush (pc := 163) (dK D_Law_forms_1 29 rfl) rfl ?_
      refine gdE h ?_
      clear h
      intro hz54 h
      refine gdE h ?_
      clear h
      intro hl55 h
      obtain ⟨y56, h9, e9⟩ := adE2 h
      clear h
      subst e9
      have h := h9
      clear h9
      refine nwE h ?_
      clear h
      intro r57 L58 e_r57 e_L58 h
      have hk1 := Nat.le_trans (bd1 hb) hkt
      have hn1 := Nat.le_trans (bd2 hb) hnt
      replace hb := bdA hb
      refine wn_newa_int (Z := (e53.2.2.2.1, e53.2.2.2.2)) (pc := 165) e_r57 e_L58 hl55 (inRk rfl) hz54 (dK D_Law_forms_1 30 rfl) q_68 hk1 hn1 ?_
      refine x_dup (pc := 167) (dK D_Law_forms_1 31 rfl) rfl ?_
      refine wx_iconst (pc := 168) (dK D_Law_forms_1 32 rfl) ?_
      refine x_aloadn (pc := 169) (i0 := 1) (j := 1) (dK D_Law_forms_1 33 rfl) rfl rfl ?_
      refine bnE h ?_
      clear h
      intro v59 e_v59 h
      refine wx_getV (pc := 170) (ci := 12) (f := 7) e_v59 (dK D_Law_forms_1 34 rfl) q_782 (ltK rfl) (ltK rfl) (fun hv59 => ?_)
      refine x_iload (pc := 173) (j := 4) (dK D_Law_forms_1 35 rfl) rfl ?_
      refine rfE h ?_
      clear h
      intro r60 e_r60 h
      rw [e_r60]
      refine bnE h ?_
      clear h
      intro v61 e_v61 h
      refine wx_zald (pc := 175) e_v61 ha5 (dK D_Law_forms_1 36 rfl) ?_
      refine wx_if_eq (pc := 176) (t := 183) (dK D_Law_forms_1 37 rfl) rfl (vI_at e_v61).2 (fun hc124 => ?_) (fun hc124 => ?_)
      · replace h := ifP h hc124
        refine wx_iconst (pc := 183) (dK D_Law_forms_1 40 rfl) ?_
        refine bnE h ?_
        clear h
        intro L62 e_L62 h
        refine wx_iast (Z := (e53.2.2.2.1, L58)) (pc := 184) (z := 0) e_L62 (inRk rfl) (dK D_Law_forms_1 41 rfl) ?_
        refine x_dup (pc := 185) (dK D_Law_forms_1 42 rfl) rfl ?_
        refine wx_iconst (pc := 186) (dK D_Law_forms_1 43 rfl) ?_
        refine x_aloadn (pc := 187) (i0 := 1) (j := 1) (dK D_Law_forms_1 44 rfl) rfl rfl ?_
        refine bnE h ?_
        clear h
        intro v63 e_v63 h
        refine wx_getV (pc := 188) (ci := 12) (f := 8) e_v63 (dK D_Law_forms_1 45 rfl) q_784 (ltK rfl) (ltK rfl) (fun hv63 => ?_)
        refine x_iload (pc := 191) (j := 4) (dK D_Law_forms_1 46 rfl) rfl ?_
        refine rfE h ?_
        clear h
        intro r64 e_r64 h
        rw [e_r64]
        refine bnE h ?_
        clear h
        intro v65 e_v65 h
        refine wx_zald (pc := 193) e_v65 ha5 (dK D_Law_forms_1 47 rfl) ?_
        refine wx_if_eq (pc := 194) (t := 201) (dK D_Law_forms_1 48 rfl) rfl (vI_at e_v65).2 (fun hc118 => ?_) (fun hc118 => ?_)
        · replace h := ifP h hc118
          refine wx_iconst (pc := 201) (dK D_Law_forms_2 1 rfl) ?_
          exact tj2_Law_forms_202_13 hkt hnt ih ha2 ha5 hx6_p51 hx7_p51 hx8_p51 (inRk rfl) (inRk rfl) h hb hx hr
        · replace h := ifN h hc118
          refine wx_iconst (pc := 197) (dK D_Law_forms_1 49 rfl) ?_
          refine x_goto (pc := 198) (tgt := 202) (dK D_Law_forms_2 0 rfl) rfl ?_
          exact tj2_Law_forms_202_13 hkt hnt ih ha2 ha5 hx6_p51 hx7_p51 hx8_p51 (inRk rfl) (inRk rfl) h hb hx hr
      · replace h := ifN h hc124
        refine wx_iconst (pc := 179) (dK D_Law_forms_1 38 rfl) ?_
        refine x_goto (pc := 180) (tgt := 184) (dK D_Law_forms_1 39 rfl) rfl ?_
        refine bnE h ?_
        clear h
        intro L119 e_L119 h
        refine wx_iast (Z := (e53.2.2.2.1, L58)) (pc := 184) (z := 1) e_L119 (inRk rfl) (dK D_Law_forms_1 41 rfl) ?_
        refine x_dup (pc := 185) (dK D_Law_forms_1 42 rfl) rfl ?_
        refine wx_iconst (pc := 186) (dK D_Law_forms_1 43 rfl) ?_
        refine x_aloadn (pc := 187) (i0 := 1) (j := 1) (dK D_Law_forms_1 44 rfl) rfl rfl ?_
        refine bnE h ?_
        clear h
        intro v120 e_v120 h
        refine wx_getV (pc := 188) (ci := 12) (f := 8) e_v120 (dK D_Law_forms_1 45 rfl) q_784 (ltK rfl) (ltK rfl) (fun hv120 => ?_)
        refine x_iload (pc := 191) (j := 4) (dK D_Law_forms_1 46 rfl) rfl ?_
        refine rfE h ?_
        clear h
        intro r121 e_r121 h
        rw [e_r121]
        refine bnE h ?_
        clear h
        intro v122 e_v122 h
        refine wx_zald (pc := 193) e_v122 ha5 (dK D_Law_forms_1 47 rfl) ?_
        refine wx_if_eq (pc := 194) (t := 201) (dK D_Law_forms_1 48 rfl) rfl (vI_at e_v122).2 (fun hc123 => ?_) (fun hc123 => ?_)
        · replace h := ifP h hc123
          refine wx_iconst (pc := 201) (dK D_Law_forms_2 1 rfl) ?_
          exact tj2_Law_forms_202_13 hkt hnt ih ha2 ha5 hx6_p51 hx7_p51 hx8_p51 (inRk rfl) (inRk rfl) h hb hx hr
        · replace h := ifN h hc123
          refine wx_iconst (pc := 197) (dK D_Law_forms_1 49 rfl) ?_
          refine x_goto (pc := 198) (tgt := 202) (dK D_Law_forms_2 0 rfl) rfl ?_
          exact tj2_Law_forms_202_13 hkt hnt ih ha2 ha5 hx6_p51 hx7_p51 hx8_p51 (inRk rfl) (inRk rfl) h hb hx hr
def lb2_Law_forms_443 (c1 : Nat) (a2 : Int) (a3 : Int) (c4 : Nat) (a5 : Int) (a6 : Int) (a7 : Int) (S : St) (L : List PC) (go : Int × Int × Int → Option (Int × Int)) (a8 : Int) (a9 : Int) (a10 : Int) : Option (Int × Int) := bnO (gfI L c1 12 0) fun v132 => nm (wr (2 * v132)) fun v133 => if v133 ≤ a10 then (some (a8, a9)) else (if (i_and (i_shr a7 a10) 1) = 0 then (nm (wr (a10 + 1)) fun v155 => go (a8, a9, v155)) else (if a9 = 0 then (bnO (ald L 0 c4 a10) fun v134 => nm (wr (a8 + v134)) fun v135 => nm (wr (a10 + 1)) fun v136 => go (v135, 0, v136)) else (bnO (gfV L c1 12 8) fun v137 => rfB v137 fun r138 => bnO (ald L 2 r138 a10) fun v139 => if v139 = 0 then (bnO (gfV L c1 12 7) fun v143 => rfB v143 fun r144 => bnO (ald L 2 r144 a10) fun v145 => if v145 = 0 then (bnO (ald L 0 c4 a10) fun v149 => nm (wr (a8 + v149)) fun v150 => nm (wr (a10 + 1)) fun v151 => go (v150, 1, v151)) else (bnO (ald L 0 c4 a10) fun v146 => nm (wr (a8 + v146)) fun v147 => nm (wr (a10 + 1)) fun v148 => go (v147, 0, v148))) else (bnO (ald L 0 c4 a10) fun v140 => nm (wr (a8 + v140)) fun v141 => nm (wr (a10 + 1)) fun v142 => go (v141, 0, v142)))))
def lo2_Law_forms_443 (c1 : Nat) (a2 : Int) (a3 : Int) (c4 : Nat) (a5 : Int) (a6 : Int) (a7 : Int) (S : St) (L : List PC) : Nat → Int × Int × Int → Option (Int × Int) := lp fun go p => lb2_Law_forms_443 c1 a2 a3 c4 a5 a6 a7 S L go p.1 p.2.1 p.2.2
theorem tl2_Law_forms_443 {sc : SC} {c1 : Nat} {a2 : Int} (ha2 : inR a2) {a3 : Int} (ha3 : inR a3) {c4 : Nat} {a5 : Int} (ha5 : inR a5) {a6 : Int} (ha6 : inR a6) {a7 : Int} (ha7 : inR a7) {K : Option Value → List PC → Prop} {S : St} {L : List PC} {mc ms k n : Nat} (hk0 : k ≤ mc) (hn0 : n ≤ ms) : ∀ (N : Nat) (a : Int × Int × Int) (q : Int × Int), lo2_Law_forms_443 c1 a2 a3 c4 a5 a6 a7 S L N a = some q → inR a.1 → inR a.2.1 → inR a.2.2 → (inR q.1 → inR q.2 → GX sc M_Law_forms mc ms 515 [(0, .ref 0), (1, .ref c1), (2, V a2), (3, V a3), (4, .ref c4), (5, V a5), (6, V a6), (7, V a7), (8, V q.1), (9, V q.2)] [] (wz (S, L)) k n K) → GX sc M_Law_forms mc ms 443 [(0, .ref 0), (1, .ref c1), (2, V a2), (3, V a3), (4, .ref c4), (5, V a5), (6, V a6), (7, V a7), (8, V a.1), (9, V a.2.1), (10, V a.2.2)] [] (wz (S, L)) k n K := by
  refine lp_ind2 (P := fun (a : Int × Int × Int) (q : Int × Int) => inR a.1 → inR a.2.1 → inR a.2.2 → (inR q.1 → inR q.2 → GX sc M_Law_forms mc ms 515 [(0, .ref 0), (1, .ref c1), (2, V a2), (3, V a3), (4, .ref c4), (5, V a5), (6, V a6), (7, V a7), (8, V q.1), (9, V q.2)] [] (wz (S, L)) k n K) → GX sc M_Law_forms mc ms 443 [(0, .ref 0), (1, .ref c1), (2, V a2), (3, V a3), (4, .ref c4), (5, V a5), (6, V a6), (7, V a7), (8, V a.1), (9, V a.2.1), (10, V a.2.2)] [] (wz (S, L)) k n K) (fun go ih a q h => ?_)
  obtain ⟨a8, a9, a10⟩ := a
  intro ha8 ha9 ha10 hx
  show GX sc M_Law_forms mc ms 443 [(0, .ref 0), (1, .ref c1), (2, V a2), (3, V a3), (4, .ref c4), (5, V a5), (6, V a6), (7, V a7), (8, V a8), (9, V a9), (10, V a10)] [] (wz (S, L)) k n K
  replace h : lb2_Law_forms_443 c1 a2 a3 c4 a5 a6 a7 S L go a8 a9 a10 = some q := h
  unfold lb2_Law_forms_443 at h
  refine x_iload (pc := 443) (j := 10) (dK D_Law_forms_4 40 rfl) rfl ?_
  refine wx_iconst (pc := 445) (dK D_Law_forms_4 41 rfl) ?_
  refine x_aloadn (pc := 446) (i0 := 1) (j := 1) (dK D_Law_forms_4 42 rfl) rfl rfl ?_
  refine bnE h ?_
  clear h
  intro v132 e_v132 h
  refine wx_getI (pc := 447) (ci := 12) (f := 0) e_v132 (dK D_Law_forms_4 43 rfl) q_768 (ltK rfl) (ltK rfl) ?_
  refine wx_imul (pc := 450) (dK D_Law_forms_4 44 rfl) ?_
  refine nmE h ?_
  clear h
  intro v133 e_v133 h
  refine wtop e_v133 ?_
  refine wx_icmp_ge (pc := 451) (t := 515) (dK D_Law_forms_4 45 rfl) rfl ha10 (Vn_in e_v133) (fun hc157 => ?_) (fun hc157 => ?_)
  · replace h := ifP h hc157
    obtain rfl := Option.some.inj h
    refine x_weak (ls' := [(0, .ref 0), (1, .ref c1), (2, V a2), (3, V a3), (4, .ref c4), (5, V a5), (6, V a6), (7, V a7), (8, V a8), (9, V a9)]) (sbc 0 rfl (sbc 1 rfl (sbc 2 rfl (sbc 3 rfl (sbc 4 rfl (sbc 5 rfl (sbc 6 rfl (sbc 7 rfl (sbc 8 rfl (sbc 9 rfl sbn)))))))))) ?_
    exact hx ha8 ha9
  · replace h := ifN h hc157
    refine x_iload (pc := 454) (j := 7) (dK D_Law_forms_4 46 rfl) rfl ?_
    refine x_iload (pc := 456) (j := 10) (dK D_Law_forms_4 47 rfl) rfl ?_
    refine wx_ishr (pc := 458) (dK D_Law_forms_4 48 rfl) ?_
    refine wx_iconst (pc := 459) (dK D_Law_forms_4 49 rfl) ?_
    refine wx_iand (pc := 460) (dK D_Law_forms_5 0 rfl) ?_
    refine wx_if_ne (pc := 461) (t := 467) (dK D_Law_forms_5 1 rfl) rfl (toInt_in _) (fun hc156 => ?_) (fun hc156 => ?_)
    · replace h := ifN h hc156
      refine x_iload (pc := 467) (j := 9) (dK D_Law_forms_5 3 rfl) rfl ?_
      refine wx_if_eq (pc := 469) (t := 496) (dK D_Law_forms_5 4 rfl) rfl ha9 (fun hc154 => ?_) (fun hc154 => ?_)
      · replace h := ifP h hc154
        refine wx_iconst (pc := 496) (dK D_Law_forms_5 17 rfl) ?_
        refine x_istore (pc := 497) (ls2 := [(9, V 0), (0, .ref 0), (1, .ref c1), (2, V a2), (3, V a3), (4, .ref c4), (5, V a5), (6, V a6), (7, V a7), (8, V a8), (10, V a10)]) (dK D_Law_forms_5 18 rfl) (ltK rfl) rfl ?_
        refine x_iload (pc := 499) (j := 9) (dK D_Law_forms_5 19 rfl) rfl ?_
        refine x_aload (pc := 501) (j := 5) (dK D_Law_forms_5 20 rfl) rfl ?_
        refine x_iload (pc := 503) (j := 10) (dK D_Law_forms_5 21 rfl) rfl ?_
        refine bnE h ?_
        clear h
        intro v134 e_v134 h
        refine wx_iald (pc := 505) e_v134 ha10 (dK D_Law_forms_5 22 rfl) ?_
        refine wx_iadd (pc := 506) (dK D_Law_forms_5 23 rfl) ?_
        refine nmE h ?_
        clear h
        intro v135 e_v135 h
        refine wtop e_v135 ?_
        refine x_istore (pc := 507) (ls2 := [(8, V v135), (9, V 0), (0, .ref 0), (1, .ref c1), (2, V a2), (3, V a3), (4, .ref c4), (5, V a5), (6, V a6), (7, V a7), (10, V a10)]) (dK D_Law_forms_5 24 rfl) (ltK rfl) rfl ?_
        refine nmE h ?_
        clear h
        intro v136 e_v136 h
        refine wx_iinc (pc := 509) (j := 10) (a := a10) (z := 1) (ls2 := [(10, V v136), (8, V v135), (9, V 0), (0, .ref 0), (1, .ref c1), (2, V a2), (3, V a3), (4, .ref c4), (5, V a5), (6, V a6), (7, V a7)]) (dK D_Law_forms_5 25 rfl) rfl e_v136 (ltK rfl) rfl ?_
        refine x_goto (pc := 512) (tgt := 443) (dK D_Law_forms_5 26 rfl) rfl ?_
        refine x_weak (ls' := [(0, .ref 0), (1, .ref c1), (2, V a2), (3, V a3), (4, .ref c4), (5, V a5), (6, V a6), (7, V a7), (8, V v135), (9, V 0), (10, V v136)]) (sbc 3 rfl (sbc 4 rfl (sbc 5 rfl (sbc 6 rfl (sbc 7 rfl (sbc 8 rfl (sbc 9 rfl (sbc 10 rfl (sbc 1 rfl (sbc 2 rfl (sbc 0 rfl sbn))))))))))) ?_
        replace h := ih _ _ h
        exact h (Vn_in e_v135) (inRk rfl) (Vn_in e_v136) hx
      · replace h := ifN h hc154
        refine x_aloadn (pc := 472) (i0 := 1) (j := 1) (dK D_Law_forms_5 5 rfl) rfl rfl ?_
        refine bnE h ?_
        clear h
        intro v137 e_v137 h
        refine wx_getV (pc := 473) (ci := 12) (f := 8) e_v137 (dK D_Law_forms_5 6 rfl) q_784 (ltK rfl) (ltK rfl) (fun hv137 => ?_)
        refine x_iload (pc := 476) (j := 10) (dK D_Law_forms_5 7 rfl) rfl ?_
        refine rfE h ?_
        clear h
        intro r138 e_r138 h
        rw [e_r138]
        refine bnE h ?_
        clear h
        intro v139 e_v139 h
        refine wx_zald (pc := 478) e_v139 ha10 (dK D_Law_forms_5 8 rfl) ?_
        refine wx_if_ne (pc := 479) (t := 496) (dK D_Law_forms_5 9 rfl) rfl (vI_at e_v139).2 (fun hc153 => ?_) (fun hc153 => ?_)
        · replace h := ifN h hc153
          refine wx_iconst (pc := 496) (dK D_Law_forms_5 17 rfl) ?_
          refine x_istore (pc := 497) (ls2 := [(9, V 0), (0, .ref 0), (1, .ref c1), (2, V a2), (3, V a3), (4, .ref c4), (5, V a5), (6, V a6), (7, V a7), (8, V a8), (10, V a10)]) (dK D_Law_forms_5 18 rfl) (ltK rfl) rfl ?_
          refine x_iload (pc := 499) (j := 9) (dK D_Law_forms_5 19 rfl) rfl ?_
          refine x_aload (pc := 501) (j := 5) (dK D_Law_forms_5 20 rfl) rfl ?_
          refine x_iload (pc := 503) (j := 10) (dK D_Law_forms_5 21 rfl) rfl ?_
          refine bnE h ?_
          clear h
          intro v140 e_v140 h
          refine wx_iald (pc := 505) e_v140 ha10 (dK D_Law_forms_5 22 rfl) ?_
          refine wx_iadd (pc := 506) (dK D_Law_forms_5 23 rfl) ?_
          refine nmE h ?_
          clear h
          intro v141 e_v141 h
          refine wtop e_v141 ?_
          refine x_istore (pc := 507) (ls2 := [(8, V v141), (9, V 0), (0, .ref 0), (1, .ref c1), (2, V a2), (3, V a3), (4, .ref c4), (5, V a5), (6, V a6), (7, V a7), (10, V a10)]) (dK D_Law_forms_5 24 rfl) (ltK rfl) rfl ?_
          refine nmE h ?_
          clear h
          intro v142 e_v142 h
          refine wx_iinc (pc := 509) (j := 10) (a := a10) (z := 1) (ls2 := [(10, V v142), (8, V v141), (9, V 0), (0, .ref 0), (1, .ref c1), (2, V a2), (3, V a3), (4, .ref c4), (5, V a5), (6, V a6), (7, V a7)]) (dK D_Law_forms_5 25 rfl) rfl e_v142 (ltK rfl) rfl ?_
          refine x_goto (pc := 512) (tgt := 443) (dK D_Law_forms_5 26 rfl) rfl ?_
          refine x_weak (ls' := [(0, .ref 0), (1, .ref c1), (2, V a2), (3, V a3), (4, .ref c4), (5, V a5), (6, V a6), (7, V a7), (8, V v141), (9, V 0), (10, V v142)]) (sbc 3 rfl (sbc 4 rfl (sbc 5 rfl (sbc 6 rfl (sbc 7 rfl (sbc 8 rfl (sbc 9 rfl (sbc 10 rfl (sbc 1 rfl (sbc 2 rfl (sbc 0 rfl sbn))))))))))) ?_
          replace h := ih _ _ h
          exact h (Vn_in e_v141) (inRk rfl) (Vn_in e_v142) hx
        · replace h := ifP h hc153
          refine x_aloadn (pc := 482) (i0 := 1) (j := 1) (dK D_Law_forms_5 10 rfl) rfl rfl ?_
          refine bnE h ?_
          clear h
          intro v143 e_v143 h
          refine wx_getV (pc := 483) (ci := 12) (f := 7) e_v143 (dK D_Law_forms_5 11 rfl) q_782 (ltK rfl) (ltK rfl) (fun hv143 => ?_)
          refine x_iload (pc := 486) (j := 10) (dK D_Law_forms_5 12 rfl) rfl ?_
          refine rfE h ?_
          clear h
          intro r144 e_r144 h
          rw [e_r144]
          refine bnE h ?_
          clear h
          intro v145 e_v145 h
          refine wx_zald (pc := 488) e_v145 ha10 (dK D_Law_forms_5 13 rfl) ?_
          refine wx_if_ne (pc := 489) (t := 496) (dK D_Law_forms_5 14 rfl) rfl (vI_at e_v145).2 (fun hc152 => ?_) (fun hc152 => ?_)
          · replace h := ifN h hc152
            refine wx_iconst (pc := 496) (dK D_Law_forms_5 17 rfl) ?_
            refine x_istore (pc := 497) (ls2 := [(9, V 0), (0, .ref 0), (1, .ref c1), (2, V a2), (3, V a3), (4, .ref c4), (5, V a5), (6, V a6), (7, V a7), (8, V a8), (10, V a10)]) (dK D_Law_forms_5 18 rfl) (ltK rfl) rfl ?_
            refine x_iload (pc := 499) (j := 9) (dK D_Law_forms_5 19 rfl) rfl ?_
            refine x_aload (pc := 501) (j := 5) (dK D_Law_forms_5 20 rfl) rfl ?_
            refine x_iload (pc := 503) (j := 10) (dK D_Law_forms_5 21 rfl) rfl ?_
            refine bnE h ?_
            clear h
            intro v146 e_v146 h
            refine wx_iald (pc := 505) e_v146 ha10 (dK D_Law_forms_5 22 rfl) ?_
            refine wx_iadd (pc := 506) (dK D_Law_forms_5 23 rfl) ?_
            refine nmE h ?_
            clear h
            intro v147 e_v147 h
            refine wtop e_v147 ?_
            refine x_istore (pc := 507) (ls2 := [(8, V v147), (9, V 0), (0, .ref 0), (1, .ref c1), (2, V a2), (3, V a3), (4, .ref c4), (5, V a5), (6, V a6), (7, V a7), (10, V a10)]) (dK D_Law_forms_5 24 rfl) (ltK rfl) rfl ?_
            refine nmE h ?_
            clear h
            intro v148 e_v148 h
            refine wx_iinc (pc := 509) (j := 10) (a := a10) (z := 1) (ls2 := [(10, V v148), (8, V v147), (9, V 0), (0, .ref 0), (1, .ref c1), (2, V a2), (3, V a3), (4, .ref c4), (5, V a5), (6, V a6), (7, V a7)]) (dK D_Law_forms_5 25 rfl) rfl e_v148 (ltK rfl) rfl ?_
            refine x_goto (pc := 512) (tgt := 443) (dK D_Law_forms_5 26 rfl) rfl ?_
            refine x_weak (ls' := [(0, .ref 0), (1, .ref c1), (2, V a2), (3, V a3), (4, .ref c4), (5, V a5), (6, V a6), (7, V a7), (8, V v147), (9, V 0), (10, V v148)]) (sbc 3 rfl (sbc 4 rfl (sbc 5 rfl (sbc 6 rfl (sbc 7 rfl (sbc 8 rfl (sbc 9 rfl (sbc 10 rfl (sbc 1 rfl (sbc 2 rfl (sbc 0 rfl sbn))))))))))) ?_
            replace h := ih _ _ h
            exact h (Vn_in e_v147) (inRk rfl) (Vn_in e_v148) hx
          · replace h := ifP h hc152
            refine wx_iconst (pc := 492) (dK D_Law_forms_5 15 rfl) ?_
            refine x_goto (pc := 493) (tgt := 497) (dK D_Law_forms_5 16 rfl) rfl ?_
            refine x_istore (pc := 497) (ls2 := [(9, V 1), (0, .ref 0), (1, .ref c1), (2, V a2), (3, V a3), (4, .ref c4), (5, V a5), (6, V a6), (7, V a7), (8, V a8), (10, V a10)]) (dK D_Law_forms_5 18 rfl) (ltK rfl) rfl ?_
            refine x_iload (pc := 499) (j := 9) (dK D_Law_forms_5 19 rfl) rfl ?_
            refine x_aload (pc := 501) (j := 5) (dK D_Law_forms_5 20 rfl) rfl ?_
            refine x_iload (pc := 503) (j := 10) (dK D_Law_forms_5 21 rfl) rfl ?_
            refine bnE h ?_
            clear h
            intro v149 e_v149 h
            refine wx_iald (pc := 505) e_v149 ha10 (dK D_Law_forms_5 22 rfl) ?_
            refine wx_iadd (pc := 506) (dK D_Law_forms_5 23 rfl) ?_
            refine nmE h ?_
            clear h
            intro v150 e_v150 h
            refine wtop e_v150 ?_
            refine x_istore (pc := 507) (ls2 := [(8, V v150), (9, V 1), (0, .ref 0), (1, .ref c1), (2, V a2), (3, V a3), (4, .ref c4), (5, V a5), (6, V a6), (7, V a7), (10, V a10)]) (dK D_Law_forms_5 24 rfl) (ltK rfl) rfl ?_
            refine nmE h ?_
            clear h
            intro v151 e_v151 h
            refine wx_iinc (pc := 509) (j := 10) (a := a10) (z := 1) (ls2 := [(10, V v151), (8, V v150), (9, V 1), (0, .ref 0), (1, .ref c1), (2, V a2), (3, V a3), (4, .ref c4), (5, V a5), (6, V a6), (7, V a7)]) (dK D_Law_forms_5 25 rfl) rfl e_v151 (ltK rfl) rfl ?_
            refine x_goto (pc := 512) (tgt := 443) (dK D_Law_forms_5 26 rfl) rfl ?_
            refine x_weak (ls' := [(0, .ref 0), (1, .ref c1), (2, V a2), (3, V a3), (4, .ref c4), (5, V a5), (6, V a6), (7, V a7), (8, V v150), (9, V 1), (10, V v151)]) (sbc 3 rfl (sbc 4 rfl (sbc 5 rfl (sbc 6 rfl (sbc 7 rfl (sbc 8 rfl (sbc 9 rfl (sbc 10 rfl (sbc 1 rfl (sbc 2 rfl (sbc 0 rfl sbn))))))))))) ?_
            replace h := ih _ _ h
            exact h (Vn_in e_v150) (inRk rfl) (Vn_in e_v151) hx
    · replace h := ifP h hc156
      refine x_goto (pc := 464) (tgt := 509) (dK D_Law_forms_5 2 rfl) rfl ?_
      refine nmE h ?_
      clear h
      intro v155 e_v155 h
      refine wx_iinc (pc := 509) (j := 10) (a := a10) (z := 1) (ls2 := [(10, V v155), (0, .ref 0), (1, .ref c1), (2, V a2), (3, V a3), (4, .ref c4), (5, V a5), (6, V a6), (7, V a7), (8, V a8), (9, V a9)]) (dK D_Law_forms_5 25 rfl) rfl e_v155 (ltK rfl) rfl ?_
      refine x_goto (pc := 512) (tgt := 443) (dK D_Law_forms_5 26 rfl) rfl ?_
      refine x_weak (ls' := [(0, .ref 0), (1, .ref c1), (2, V a2), (3, V a3), (4, .ref c4), (5, V a5), (6, V a6), (7, V a7), (8, V a8), (9, V a9), (10, V v155)]) (sbc 1 rfl (sbc 2 rfl (sbc 3 rfl (sbc 4 rfl (sbc 5 rfl (sbc 6 rfl (sbc 7 rfl (sbc 8 rfl (sbc 9 rfl (sbc 10 rfl (sbc 0 rfl sbn))))))))))) ?_
      replace h := ih _ _ h
      exact h ha8 ha9 (Vn_in e_v155) hx
def lb2_Law_forms_415 (c1 : Nat) (a2 : Int) (c4 : Nat) (a5 : Int) (go : Int × Int × Int × LZ → Option ((Int × LZ) × Nat × Nat)) (a3 : Int) (a6 : Int) (a7 : Int) (S : St) (L : List PC) : Option ((Int × LZ) × Nat × Nat) := if a7 ≤ 0 then (some ((a3, (S, L)), 0, 0)) else (bnO (fn_Integer_bitCount a7 S) fun p131 => if p131 = a5 then (bnO (lo2_Law_forms_443 c1 a2 a3 c4 a5 a6 a7 S L FU (0, 1, 0)) fun p164 => if p164.2 = 0 then (nm (wr (a7 + (-1))) fun v165 => go (a3, a6, v165, (S, L))) else (if a6 ≤ p164.1 then (nm (wr (a7 + (-1))) fun v166 => go (a7, p164.1, v166, (S, L))) else (nm (wr (a7 + (-1))) fun v167 => go (a3, a6, v167, (S, L))))) else (bnO (lo2_Law_forms_443 c1 a2 a3 c4 a5 a6 a7 S L FU (0, 0, 0)) fun p158 => if p158.2 = 0 then (nm (wr (a7 + (-1))) fun v159 => go (a3, a6, v159, (S, L))) else (if a6 ≤ p158.1 then (nm (wr (a7 + (-1))) fun v160 => go (a7, p158.1, v160, (S, L))) else (nm (wr (a7 + (-1))) fun v161 => go (a3, a6, v161, (S, L))))))
def lo2_Law_forms_415 (c1 : Nat) (a2 : Int) (c4 : Nat) (a5 : Int) : Nat → Int × Int × Int × LZ → Option ((Int × LZ) × Nat × Nat) := lp fun go p => lb2_Law_forms_415 c1 a2 c4 a5 go p.1 p.2.1 p.2.2.1 p.2.2.2.1 p.2.2.2.2
theorem tl2_Law_forms_415 {sc : SC} {c1 : Nat} {a2 : Int} (ha2 : inR a2) {c4 : Nat} {a5 : Int} (ha5 : inR a5) {K : Option Value → List PC → Prop} {mc ms kt nt : Nat} (hkt : kt ≤ mc) (hnt : nt ≤ ms) : ∀ (N : Nat) (a : Int × Int × Int × LZ) (q : (Int × LZ) × Nat × Nat), lo2_Law_forms_415 c1 a2 c4 a5 N a = some q → ∀ k n, Bd k n kt nt q → inR a.1 → inR a.2.1 → inR a.2.2.1 → (inR q.1.1 → GX sc M_Law_forms mc ms 543 [(0, .ref 0), (1, .ref c1), (2, V a2), (3, V q.1.1), (4, .ref c4), (5, V a5)] [] (wz q.1.2) kt nt K) → GX sc M_Law_forms mc ms 415 [(0, .ref 0), (1, .ref c1), (2, V a2), (3, V a.1), (4, .ref c4), (5, V a5), (6, V a.2.1), (7, V a.2.2.1)] [] (wz a.2.2.2) k n K := by
  refine lp_ind2 (P := fun (a : Int × Int × Int × LZ) (q : (Int × LZ) × Nat × Nat) => ∀ k n, Bd k n kt nt q → inR a.1 → inR a.2.1 → inR a.2.2.1 → (inR q.1.1 → GX sc M_Law_forms mc ms 543 [(0, .ref 0), (1, .ref c1), (2, V a2), (3, V q.1.1), (4, .ref c4), (5, V a5)] [] (wz q.1.2) kt nt K) → GX sc M_Law_forms mc ms 415 [(0, .ref 0), (1, .ref c1), (2, V a2), (3, V a.1), (4, .ref c4), (5, V a5), (6, V a.2.1), (7, V a.2.2.1)] [] (wz a.2.2.2) k n K) (fun go ih a q h => ?_)
  obtain ⟨a3, a6, a7, ⟨S, L⟩⟩ := a
  intro k n hb ha3 ha6 ha7 hx
  show GX sc M_Law_forms mc ms 415 [(0, .ref 0), (1, .ref c1), (2, V a2), (3, V a3), (4, .ref c4), (5, V a5), (6, V a6), (7, V a7)] [] (wz (S, L)) k n K
  replace h : lb2_Law_forms_415 c1 a2 c4 a5 go a3 a6 a7 S L = some q := h
  unfold lb2_Law_forms_415 at h
  refine x_iload (pc := 415) (j := 7) (dK D_Law_forms_4 26 rfl) rfl ?_
  refine wx_if_le (pc := 417) (t := 543) (dK D_Law_forms_4 27 rfl) rfl ha7 (fun hc171 => ?_) (fun hc171 => ?_)
  · replace h := ifP h hc171
    obtain rfl := Option.some.inj h
    refine x_weak (ls' := [(0, .ref 0), (1, .ref c1), (2, V a2), (3, V a3), (4, .ref c4), (5, V a5)]) (sbc 0 rfl (sbc 1 rfl (sbc 2 rfl (sbc 3 rfl (sbc 4 rfl (sbc 5 rfl sbn)))))) ?_
    refine x_room (bdk hb) (bdn hb) ?_
    exact hx ha3
  · replace h := ifN h hc171
    refine wx_iconst (pc := 420) (dK D_Law_forms_4 28 rfl) ?_
    refine x_istore (pc := 421) (ls2 := [(8, V 0), (0, .ref 0), (1, .ref c1), (2, V a2), (3, V a3), (4, .ref c4), (5, V a5), (6, V a6), (7, V a7)]) (dK D_Law_forms_4 29 rfl) (ltK rfl) rfl ?_
    refine x_iload (pc := 423) (j := 8) (dK D_Law_forms_4 30 rfl) rfl ?_
    refine bnE h ?_
    clear h
    intro p131 e_p131 h
    refine x_callS (pc := 425) (As := [V a7]) (rest := []) (mc' := 0) (ms' := 0) (dK D_Law_forms_4 31 rfl) Q_Law_237 (fitK rfl) rfl (leK rfl) (Nat.le_trans (bdk hb) hkt) (Nat.le_trans (bdn hb) hnt) (clI (fun E => tf_Integer_bitCount (X := xz L) ha7 e_p131)) (kxI' (fun h_p131 => ?_))
    refine x_iload (pc := 428) (j := 6) (dK D_Law_forms_4 32 rfl) rfl ?_
    refine wx_icmp_ne (pc := 430) (t := 437) (dK D_Law_forms_4 33 rfl) rfl h_p131 ha5 (fun hc170 => ?_) (fun hc170 => ?_)
    · replace h := ifN h hc170
      refine wx_iconst (pc := 437) (dK D_Law_forms_4 36 rfl) ?_
      refine x_istore (pc := 438) (ls2 := [(9, V 0), (8, V 0), (0, .ref 0), (1, .ref c1), (2, V a2), (3, V a3), (4, .ref c4), (5, V a5), (6, V a6), (7, V a7)]) (dK D_Law_forms_4 37 rfl) (ltK rfl) rfl ?_
      refine wx_iconst (pc := 440) (dK D_Law_forms_4 38 rfl) ?_
      refine x_istore (pc := 441) (ls2 := [(10, V 0), (9, V 0), (8, V 0), (0, .ref 0), (1, .ref c1), (2, V a2), (3, V a3), (4, .ref c4), (5, V a5), (6, V a6), (7, V a7)]) (dK D_Law_forms_4 39 rfl) (ltK rfl) rfl ?_
      refine bnE h ?_
      clear h
      intro p158 e_p158 h
      refine x_weak (ls' := [(0, .ref 0), (1, .ref c1), (2, V a2), (3, V a3), (4, .ref c4), (5, V a5), (6, V a6), (7, V a7), (8, V 0), (9, V 0), (10, V 0)]) (sbc 3 rfl (sbc 4 rfl (sbc 5 rfl (sbc 6 rfl (sbc 7 rfl (sbc 8 rfl (sbc 9 rfl (sbc 10 rfl (sbc 2 rfl (sbc 1 rfl (sbc 0 rfl sbn))))))))))) ?_
      refine tl2_Law_forms_443 ha2 ha3 ha5 ha6 ha7 (Nat.le_trans (bdk hb) hkt) (Nat.le_trans (bdn hb) hnt) FU _ _ e_p158 (inRk rfl) (inRk rfl) (inRk rfl) (fun hx8_p158 hx9_p158 => ?_)
      refine x_iload (pc := 515) (j := 9) (dK D_Law_forms_5 27 rfl) rfl ?_
      refine wx_if_eq (pc := 517) (t := 537) (dK D_Law_forms_5 28 rfl) rfl hx9_p158 (fun hc163 => ?_) (fun hc163 => ?_)
      · replace h := ifP h hc163
        refine nmE h ?_
        clear h
        intro v159 e_v159 h
        refine wx_iinc (pc := 537) (j := 7) (a := a7) (z := -1) (ls2 := [(7, V v159), (0, .ref 0), (1, .ref c1), (2, V a2), (3, V a3), (4, .ref c4), (5, V a5), (6, V a6), (8, V p158.1), (9, V p158.2)]) (dK D_Law_forms_5 37 rfl) rfl e_v159 (ltK rfl) rfl ?_
        refine x_goto (pc := 540) (tgt := 415) (dK D_Law_forms_5 38 rfl) rfl ?_
        refine x_weak (ls' := [(0, .ref 0), (1, .ref c1), (2, V a2), (3, V a3), (4, .ref c4), (5, V a5), (6, V a6), (7, V v159)]) (sbc 1 rfl (sbc 2 rfl (sbc 3 rfl (sbc 4 rfl (sbc 5 rfl (sbc 6 rfl (sbc 7 rfl (sbc 0 rfl sbn)))))))) ?_
        replace h := ih _ _ h
        exact h _ _ hb ha3 ha6 (Vn_in e_v159) hx
      · replace h := ifN h hc163
        refine x_iload (pc := 520) (j := 8) (dK D_Law_forms_5 29 rfl) rfl ?_
        refine x_iload (pc := 522) (j := 6) (dK D_Law_forms_5 30 rfl) rfl ?_
        refine wx_icmp_ge (pc := 524) (t := 530) (dK D_Law_forms_5 31 rfl) rfl hx8_p158 ha6 (fun hc162 => ?_) (fun hc162 => ?_)
        · replace h := ifP h hc162
          refine x_iload (pc := 530) (j := 8) (dK D_Law_forms_5 33 rfl) rfl ?_
          refine x_istore (pc := 532) (ls2 := [(6, V p158.1), (0, .ref 0), (1, .ref c1), (2, V a2), (3, V a3), (4, .ref c4), (5, V a5), (7, V a7), (8, V p158.1), (9, V p158.2)]) (dK D_Law_forms_5 34 rfl) (ltK rfl) rfl ?_
          refine x_iload (pc := 534) (j := 7) (dK D_Law_forms_5 35 rfl) rfl ?_
          refine x_istoren (pc := 536) (i0 := 3) (ls2 := [(3, V a7), (6, V p158.1), (0, .ref 0), (1, .ref c1), (2, V a2), (4, .ref c4), (5, V a5), (7, V a7), (8, V p158.1), (9, V p158.2)]) (dK D_Law_forms_5 36 rfl) rfl (ltK rfl) rfl ?_
          refine nmE h ?_
          clear h
          intro v160 e_v160 h
          refine wx_iinc (pc := 537) (j := 7) (a := a7) (z := -1) (ls2 := [(7, V v160), (3, V a7), (6, V p158.1), (0, .ref 0), (1, .ref c1), (2, V a2), (4, .ref c4), (5, V a5), (8, V p158.1), (9, V p158.2)]) (dK D_Law_forms_5 37 rfl) rfl e_v160 (ltK rfl) rfl ?_
          refine x_goto (pc := 540) (tgt := 415) (dK D_Law_forms_5 38 rfl) rfl ?_
          refine x_weak (ls' := [(0, .ref 0), (1, .ref c1), (2, V a2), (3, V a7), (4, .ref c4), (5, V a5), (6, V p158.1), (7, V v160)]) (sbc 3 rfl (sbc 4 rfl (sbc 5 rfl (sbc 1 rfl (sbc 6 rfl (sbc 7 rfl (sbc 2 rfl (sbc 0 rfl sbn)))))))) ?_
          replace h := ih _ _ h
          exact h _ _ hb ha7 hx8_p158 (Vn_in e_v160) hx
        · replace h := ifN h hc162
          refine x_goto (pc := 527) (tgt := 537) (dK D_Law_forms_5 32 rfl) rfl ?_
          refine nmE h ?_
          clear h
          intro v161 e_v161 h
          refine wx_iinc (pc := 537) (j := 7) (a := a7) (z := -1) (ls2 := [(7, V v161), (0, .ref 0), (1, .ref c1), (2, V a2), (3, V a3), (4, .ref c4), (5, V a5), (6, V a6), (8, V p158.1), (9, V p158.2)]) (dK D_Law_forms_5 37 rfl) rfl e_v161 (ltK rfl) rfl ?_
          refine x_goto (pc := 540) (tgt := 415) (dK D_Law_forms_5 38 rfl) rfl ?_
          refine x_weak (ls' := [(0, .ref 0), (1, .ref c1), (2, V a2), (3, V a3), (4, .ref c4), (5, V a5), (6, V a6), (7, V v161)]) (sbc 1 rfl (sbc 2 rfl (sbc 3 rfl (sbc 4 rfl (sbc 5 rfl (sbc 6 rfl (sbc 7 rfl (sbc 0 rfl sbn)))))))) ?_
          replace h := ih _ _ h
          exact h _ _ hb ha3 ha6 (Vn_in e_v161) hx
    · replace h := ifP h hc170
      refine wx_iconst (pc := 433) (dK D_Law_forms_4 34 rfl) ?_
      refine x_goto (pc := 434) (tgt := 438) (dK D_Law_forms_4 35 rfl) rfl ?_
      refine x_istore (pc := 438) (ls2 := [(9, V 1), (8, V 0), (0, .ref 0), (1, .ref c1), (2, V a2), (3, V a3), (4, .ref c4), (5, V a5), (6, V a6), (7, V a7)]) (dK D_Law_forms_4 37 rfl) (ltK rfl) rfl ?_
      refine wx_iconst (pc := 440) (dK D_Law_forms_4 38 rfl) ?_
      refine x_istore (pc := 441) (ls2 := [(10, V 0), (9, V 1), (8, V 0), (0, .ref 0), (1, .ref c1), (2, V a2), (3, V a3), (4, .ref c4), (5, V a5), (6, V a6), (7, V a7)]) (dK D_Law_forms_4 39 rfl) (ltK rfl) rfl ?_
      refine bnE h ?_
      clear h
      intro p164 e_p164 h
      refine x_weak (ls' := [(0, .ref 0), (1, .ref c1), (2, V a2), (3, V a3), (4, .ref c4), (5, V a5), (6, V a6), (7, V a7), (8, V 0), (9, V 1), (10, V 0)]) (sbc 3 rfl (sbc 4 rfl (sbc 5 rfl (sbc 6 rfl (sbc 7 rfl (sbc 8 rfl (sbc 9 rfl (sbc 10 rfl (sbc 2 rfl (sbc 1 rfl (sbc 0 rfl sbn))))))))))) ?_
      refine tl2_Law_forms_443 ha2 ha3 ha5 ha6 ha7 (Nat.le_trans (bdk hb) hkt) (Nat.le_trans (bdn hb) hnt) FU _ _ e_p164 (inRk rfl) (inRk rfl) (inRk rfl) (fun hx8_p164 hx9_p164 => ?_)
      refine x_iload (pc := 515) (j := 9) (dK D_Law_forms_5 27 rfl) rfl ?_
      refine wx_if_eq (pc := 517) (t := 537) (dK D_Law_forms_5 28 rfl) rfl hx9_p164 (fun hc169 => ?_) (fun hc169 => ?_)
      · replace h := ifP h hc169
        refine nmE h ?_
        clear h
        intro v165 e_v165 h
        refine wx_iinc (pc := 537) (j := 7) (a := a7) (z := -1) (ls2 := [(7, V v165), (0, .ref 0), (1, .ref c1), (2, V a2), (3, V a3), (4, .ref c4), (5, V a5), (6, V a6), (8, V p164.1), (9, V p164.2)]) (dK D_Law_forms_5 37 rfl) rfl e_v165 (ltK rfl) rfl ?_
        refine x_goto (pc := 540) (tgt := 415) (dK D_Law_forms_5 38 rfl) rfl ?_
        refine x_weak (ls' := [(0, .ref 0), (1, .ref c1), (2, V a2), (3, V a3), (4, .ref c4), (5, V a5), (6, V a6), (7, V v165)]) (sbc 1 rfl (sbc 2 rfl (sbc 3 rfl (sbc 4 rfl (sbc 5 rfl (sbc 6 rfl (sbc 7 rfl (sbc 0 rfl sbn)))))))) ?_
        replace h := ih _ _ h
        exact h _ _ hb ha3 ha6 (Vn_in e_v165) hx
      · replace h := ifN h hc169
        refine x_iload (pc := 520) (j := 8) (dK D_Law_forms_5 29 rfl) rfl ?_
        refine x_iload (pc := 522) (j := 6) (dK D_Law_forms_5 30 rfl) rfl ?_
        refine wx_icmp_ge (pc := 524) (t := 530) (dK D_Law_forms_5 31 rfl) rfl hx8_p164 ha6 (fun hc168 => ?_) (fun hc168 => ?_)
        · replace h := ifP h hc168
          refine x_iload (pc := 530) (j := 8) (dK D_Law_forms_5 33 rfl) rfl ?_
          refine x_istore (pc := 532) (ls2 := [(6, V p164.1), (0, .ref 0), (1, .ref c1), (2, V a2), (3, V a3), (4, .ref c4), (5, V a5), (7, V a7), (8, V p164.1), (9, V p164.2)]) (dK D_Law_forms_5 34 rfl) (ltK rfl) rfl ?_
          refine x_iload (pc := 534) (j := 7) (dK D_Law_forms_5 35 rfl) rfl ?_
          refine x_istoren (pc := 536) (i0 := 3) (ls2 := [(3, V a7), (6, V p164.1), (0, .ref 0), (1, .ref c1), (2, V a2), (4, .ref c4), (5, V a5), (7, V a7), (8, V p164.1), (9, V p164.2)]) (dK D_Law_forms_5 36 rfl) rfl (ltK rfl) rfl ?_
          refine nmE h ?_
          clear h
          intro v166 e_v166 h
          refine wx_iinc (pc := 537) (j := 7) (a := a7) (z := -1) (ls2 := [(7, V v166), (3, V a7), (6, V p164.1), (0, .ref 0), (1, .ref c1), (2, V a2), (4, .ref c4), (5, V a5), (8, V p164.1), (9, V p164.2)]) (dK D_Law_forms_5 37 rfl) rfl e_v166 (ltK rfl) rfl ?_
          refine x_goto (pc := 540) (tgt := 415) (dK D_Law_forms_5 38 rfl) rfl ?_
          refine x_weak (ls' := [(0, .ref 0), (1, .ref c1), (2, V a2), (3, V a7), (4, .ref c4), (5, V a5), (6, V p164.1), (7, V v166)]) (sbc 3 rfl (sbc 4 rfl (sbc 5 rfl (sbc 1 rfl (sbc 6 rfl (sbc 7 rfl (sbc 2 rfl (sbc 0 rfl sbn)))))))) ?_
          replace h := ih _ _ h
          exact h _ _ hb ha7 hx8_p164 (Vn_in e_v166) hx
        · replace h := ifN h hc168
          refine x_goto (pc := 527) (tgt := 537) (dK D_Law_forms_5 32 rfl) rfl ?_
          refine nmE h ?_
          clear h
          intro v167 e_v167 h
          refine wx_iinc (pc := 537) (j := 7) (a := a7) (z := -1) (ls2 := [(7, V v167), (0, .ref 0), (1, .ref c1), (2, V a2), (3, V a3), (4, .ref c4), (5, V a5), (6, V a6), (8, V p164.1), (9, V p164.2)]) (dK D_Law_forms_5 37 rfl) rfl e_v167 (ltK rfl) rfl ?_
          refine x_goto (pc := 540) (tgt := 415) (dK D_Law_forms_5 38 rfl) rfl ?_
          refine x_weak (ls' := [(0, .ref 0), (1, .ref c1), (2, V a2), (3, V a3), (4, .ref c4), (5, V a5), (6, V a6), (7, V v167)]) (sbc 1 rfl (sbc 2 rfl (sbc 3 rfl (sbc 4 rfl (sbc 5 rfl (sbc 6 rfl (sbc 7 rfl (sbc 0 rfl sbn)))))))) ?_
          replace h := ih _ _ h
          exact h _ _ hb ha3 ha6 (Vn_in e_v167) hx
def lb2_Law_forms_392 (c1 : Nat) (a2 : Int) (c4 : Nat) (go : Int × LZ → Option (((Bool × LZ) ⊕ (LZ)) × Nat × Nat)) (a5 : Int) (S : St) (L : List PC) : Option (((Bool × LZ) ⊕ (LZ)) × Nat × Nat) := if 4 ≤ a5 then (some (.inr (S, L), 0, 0)) else (bnO (gfI L c1 12 0) fun v129 => nm (wr ((i_shl 1 (2 * v129)) - 1)) fun v130 => bnO (lo2_Law_forms_415 c1 a2 c4 a5 FU (0, (-1), v130, (S, L))) fun p172 => adC p172.2.1 p172.2.2 (bnO (fn_FP_bestColor 0 a5 p172.1.2.1) fun p173 => if p173.1 = 0 then (adC 1 6 (if p173.2 = p172.1.1 then (nm (wr (a5 + 1)) fun v174 => go (v174, (p172.1.2.1, p172.1.2.2))) else (some (.inl (false, (p172.1.2.1, p172.1.2.2)), 0, 0)))) else none))
def lo2_Law_forms_392 (c1 : Nat) (a2 : Int) (c4 : Nat) : Nat → Int × LZ → Option (((Bool × LZ) ⊕ (LZ)) × Nat × Nat) := lp fun go p => lb2_Law_forms_392 c1 a2 c4 go p.1 p.2.1 p.2.2
theorem tl2_Law_forms_392 {sc : SC} {c1 : Nat} {a2 : Int} (ha2 : inR a2) {c4 : Nat} {K : Option Value → List PC → Prop} {mc ms kt nt : Nat} (hkt : kt ≤ mc) (hnt : nt ≤ ms) : ∀ (N : Nat) (a : Int × LZ) (q : ((Bool × LZ) ⊕ (LZ)) × Nat × Nat), lo2_Law_forms_392 c1 a2 c4 N a = some q → ∀ k n, Bd k n kt nt q → inR a.1 → (∀ e, q.1 = .inr e → GX sc M_Law_forms mc ms 561 [(0, .ref 0), (1, .ref c1), (2, V a2)] [] (wz e) kt nt K) → (∀ r, q.1 = .inl r → K (some (V (bi r.1))) (wz r.2)) → GX sc M_Law_forms mc ms 392 [(0, .ref 0), (1, .ref c1), (2, V a2), (4, .ref c4), (5, V a.1)] [] (wz a.2) k n K := by
  refine lp_ind2 (P := fun (a : Int × LZ) (q : ((Bool × LZ) ⊕ (LZ)) × Nat × Nat) => ∀ k n, Bd k n kt nt q → inR a.1 → (∀ e, q.1 = .inr e → GX sc M_Law_forms mc ms 561 [(0, .ref 0), (1, .ref c1), (2, V a2)] [] (wz e) kt nt K) → (∀ r, q.1 = .inl r → K (some (V (bi r.1))) (wz r.2)) → GX sc M_Law_forms mc ms 392 [(0, .ref 0), (1, .ref c1), (2, V a2), (4, .ref c4), (5, V a.1)] [] (wz a.2) k n K) (fun go ih a q h => ?_)
  obtain ⟨a5, ⟨S, L⟩⟩ := a
  intro k n hb ha5 hx hr
  show GX sc M_Law_forms mc ms 392 [(0, .ref 0), (1, .ref c1), (2, V a2), (4, .ref c4), (5, V a5)] [] (wz (S, L)) k n K
  replace h : lb2_Law_forms_392 c1 a2 c4 go a5 S L = some q := h
  unfold lb2_Law_forms_392 at h
  refine x_iload (pc := 392) (j := 4) (dK D_Law_forms_4 10 rfl) rfl ?_
  refine wx_iconst (pc := 394) (dK D_Law_forms_4 11 rfl) ?_
  refine wx_icmp_ge (pc := 395) (t := 561) (dK D_Law_forms_4 12 rfl) rfl ha5 (inRk rfl) (fun hc176 => ?_) (fun hc176 => ?_)
  · replace h := ifP h hc176
    obtain rfl := Option.some.inj h
    refine x_weak (ls' := [(0, .ref 0), (1, .ref c1), (2, V a2)]) (sbc 0 rfl (sbc 1 rfl (sbc 2 rfl sbn))) ?_
    refine x_room (bdk hb) (bdn hb) ?_
    exact hx (S, L) rfl
  · replace h := ifN h hc176
    refine wx_iconst (pc := 398) (dK D_Law_forms_4 13 rfl) ?_
    refine x_istore (pc := 399) (ls2 := [(6, V (-1)), (0, .ref 0), (1, .ref c1), (2, V a2), (4, .ref c4), (5, V a5)]) (dK D_Law_forms_4 14 rfl) (ltK rfl) rfl ?_
    refine wx_iconst (pc := 401) (dK D_Law_forms_4 15 rfl) ?_
    refine x_istoren (pc := 402) (i0 := 3) (ls2 := [(3, V 0), (6, V (-1)), (0, .ref 0), (1, .ref c1), (2, V a2), (4, .ref c4), (5, V a5)]) (dK D_Law_forms_4 16 rfl) rfl (ltK rfl) rfl ?_
    refine wx_iconst (pc := 403) (dK D_Law_forms_4 17 rfl) ?_
    refine wx_iconst (pc := 404) (dK D_Law_forms_4 18 rfl) ?_
    refine x_aloadn (pc := 405) (i0 := 1) (j := 3) (dK D_Law_forms_4 19 rfl) rfl rfl ?_
    refine bnE h ?_
    clear h
    intro v129 e_v129 h
    refine wx_getI (pc := 406) (ci := 12) (f := 0) e_v129 (dK D_Law_forms_4 20 rfl) q_768 (ltK rfl) (ltK rfl) ?_
    refine wx_imul (pc := 409) (dK D_Law_forms_4 21 rfl) ?_
    refine wx_ishl (pc := 410) (dK D_Law_forms_4 22 rfl) ?_
    refine wx_iconst (pc := 411) (dK D_Law_forms_4 23 rfl) ?_
    refine wx_isub (pc := 412) (dK D_Law_forms_4 24 rfl) ?_
    refine nmE h ?_
    clear h
    intro v130 e_v130 h
    refine wtop e_v130 ?_
    refine x_istore (pc := 413) (ls2 := [(7, V v130), (3, V 0), (6, V (-1)), (0, .ref 0), (1, .ref c1), (2, V a2), (4, .ref c4), (5, V a5)]) (dK D_Law_forms_4 25 rfl) (ltK rfl) rfl ?_
    refine bnE h ?_
    clear h
    intro p172 e_p172 h
    obtain ⟨yp172, h9, e9⟩ := adE2 h
    clear h
    subst e9
    have h := h9
    clear h9
    have hk1 := Nat.le_trans (bd1 hb) hkt
    have hn1 := Nat.le_trans (bd2 hb) hnt
    replace hb := bdA hb
    refine x_weak (ls' := [(0, .ref 0), (1, .ref c1), (2, V a2), (3, V 0), (4, .ref c4), (5, V a5), (6, V (-1)), (7, V v130)]) (sbc 3 rfl (sbc 4 rfl (sbc 5 rfl (sbc 1 rfl (sbc 6 rfl (sbc 7 rfl (sbc 2 rfl (sbc 0 rfl sbn)))))))) ?_
    refine tl2_Law_forms_415 ha2 ha5 hk1 hn1 FU _ _ e_p172 _ _ ⟨Nat.le_refl _, Nat.le_refl _⟩ (inRk rfl) (inRk rfl) (Vn_in e_v130) (fun hx3_p172 => ?_)
    refine x_aloadn (pc := 543) (i0 := 0) (j := 0) (dK D_Law_forms_5 39 rfl) rfl rfl ?_
    refine x_iload (pc := 544) (j := 5) (dK D_Law_forms_5 40 rfl) rfl ?_
    refine bnE h ?_
    clear h
    intro p173 e_p173 h
    refine gdE h ?_
    clear h
    intro hz_p173 h
    obtain ⟨yp173, h9, e9⟩ := adE2 h
    clear h
    subst e9
    have h := h9
    clear h9
    have hk1 := Nat.le_trans (bd1 hb) hkt
    have hn1 := Nat.le_trans (bd2 hb) hnt
    replace hb := bdA hb
    refine x_callX (pc := 546) (As := [V a5]) (rest := []) (mc' := 1) (ms' := 6) (dK D_Law_forms_5 41 rfl) Q_Law_240 sx_FP_bestColor (fitK rfl) (isK_at (Z := (p172.1.2.1, p172.1.2.2)) (ci := 10) isK0) rfl (leK rfl) hk1 hn1 (clTI hz_p173 (fun E => tf_FP_bestColor (X := xz p172.1.2.2) rfl xz_hc ha5 e_p173)) (kxI' (fun h_p173 => ?_))
    refine x_iloadn (pc := 549) (i0 := 3) (j := 3) (dK D_Law_forms_5 42 rfl) rfl rfl ?_
    refine wx_icmp_eq (pc := 550) (t := 555) (dK D_Law_forms_5 43 rfl) rfl h_p173 hx3_p172 (fun hc175 => ?_) (fun hc175 => ?_)
    · replace h := ifP h hc175
      refine nmE h ?_
      clear h
      intro v174 e_v174 h
      refine wx_iinc (pc := 555) (j := 5) (a := a5) (z := 1) (ls2 := [(5, V v174), (0, .ref 0), (1, .ref c1), (2, V a2), (3, V p172.1.1), (4, .ref c4)]) (dK D_Law_forms_5 46 rfl) rfl e_v174 (ltK rfl) rfl ?_
      refine x_goto (pc := 558) (tgt := 392) (dK D_Law_forms_5 47 rfl) rfl ?_
      refine x_weak (ls' := [(0, .ref 0), (1, .ref c1), (2, V a2), (4, .ref c4), (5, V v174)]) (sbc 1 rfl (sbc 2 rfl (sbc 3 rfl (sbc 5 rfl (sbc 0 rfl sbn))))) ?_
      replace h := ih _ _ h
      exact h _ _ hb (Vn_in e_v174) hx hr
    · replace h := ifN h hc175
      refine wx_iconst (pc := 553) (dK D_Law_forms_5 44 rfl) ?_
      obtain rfl := Option.some.inj h
      exact wk_iretB (pc := 554) (b := false) (dK D_Law_forms_5 45 rfl) rfl (Nat.le_trans (bdk hb) hkt) (Nat.le_trans (bdn hb) hnt) (hr (false, (p172.1.2.1, p172.1.2.2)) rfl)
def lb2_Law_forms_577 (c1 : Nat) (a2 : Int) (c5 : Nat) (S : St) (L : List PC) (go : Int × Int → Option (Int)) (a6 : Int) (a7 : Int) : Option (Int) := bnO (gfI L c1 12 0) fun v184 => nm (wr (2 * v184)) fun v185 => if v185 ≤ a7 then (some a6) else (bnO (gfV L c5 12 8) fun v186 => rfB v186 fun r187 => bnO (ald L 2 r187 a7) fun v188 => if v188 = 0 then (bnO (gfV L c5 12 9) fun v189 => rfB v189 fun r190 => bnO (ald L 0 r190 a7) fun v191 => nm (wr (a7 + 1)) fun v192 => go ((i_max a6 v191), v192)) else (nm (wr (a7 + 1)) fun v193 => go ((i_max a6 0), v193)))
def lo2_Law_forms_577 (c1 : Nat) (a2 : Int) (c5 : Nat) (S : St) (L : List PC) : Nat → Int × Int → Option (Int) := lp fun go p => lb2_Law_forms_577 c1 a2 c5 S L go p.1 p.2
theorem tl2_Law_forms_577 {sc : SC} {c1 : Nat} {a2 : Int} (ha2 : inR a2) {c5 : Nat} {K : Option Value → List PC → Prop} {S : St} {L : List PC} {mc ms k n : Nat} (hk0 : k ≤ mc) (hn0 : n ≤ ms) : ∀ (N : Nat) (a : Int × Int) (q : Int), lo2_Law_forms_577 c1 a2 c5 S L N a = some q → inR a.1 → inR a.2 → (inR q → GX sc M_Law_forms mc ms 624 [(0, .ref 0), (1, .ref c1), (2, V a2), (5, .ref c5), (6, V q)] [] (wz (S, L)) k n K) → GX sc M_Law_forms mc ms 577 [(0, .ref 0), (1, .ref c1), (2, V a2), (5, .ref c5), (6, V a.1), (7, V a.2)] [] (wz (S, L)) k n K := by
  refine lp_ind2 (P := fun (a : Int × Int) (q : Int) => inR a.1 → inR a.2 → (inR q → GX sc M_Law_forms mc ms 624 [(0, .ref 0), (1, .ref c1), (2, V a2), (5, .ref c5), (6, V q)] [] (wz (S, L)) k n K) → GX sc M_Law_forms mc ms 577 [(0, .ref 0), (1, .ref c1), (2, V a2), (5, .ref c5), (6, V a.1), (7, V a.2)] [] (wz (S, L)) k n K) (fun go ih a q h => ?_)
  obtain ⟨a6, a7⟩ := a
  intro ha6 ha7 hx
  show GX sc M_Law_forms mc ms 577 [(0, .ref 0), (1, .ref c1), (2, V a2), (5, .ref c5), (6, V a6), (7, V a7)] [] (wz (S, L)) k n K
  replace h : lb2_Law_forms_577 c1 a2 c5 S L go a6 a7 = some q := h
  unfold lb2_Law_forms_577 at h
  refine x_iload (pc := 577) (j := 5) (dK D_Law_forms_6 6 rfl) rfl ?_
  refine wx_iconst (pc := 579) (dK D_Law_forms_6 7 rfl) ?_
  refine x_aloadn (pc := 580) (i0 := 1) (j := 1) (dK D_Law_forms_6 8 rfl) rfl rfl ?_
  refine bnE h ?_
  clear h
  intro v184 e_v184 h
  refine wx_getI (pc := 581) (ci := 12) (f := 0) e_v184 (dK D_Law_forms_6 9 rfl) q_768 (ltK rfl) (ltK rfl) ?_
  refine wx_imul (pc := 584) (dK D_Law_forms_6 10 rfl) ?_
  refine nmE h ?_
  clear h
  intro v185 e_v185 h
  refine wtop e_v185 ?_
  refine wx_icmp_ge (pc := 585) (t := 624) (dK D_Law_forms_6 11 rfl) rfl ha7 (Vn_in e_v185) (fun hc195 => ?_) (fun hc195 => ?_)
  · replace h := ifP h hc195
    obtain rfl := Option.some.inj h
    refine x_weak (ls' := [(0, .ref 0), (1, .ref c1), (2, V a2), (5, .ref c5), (6, V a6)]) (sbc 0 rfl (sbc 1 rfl (sbc 2 rfl (sbc 3 rfl (sbc 4 rfl sbn))))) ?_
    exact hx ha6
  · replace h := ifN h hc195
    refine x_iload (pc := 588) (j := 4) (dK D_Law_forms_6 12 rfl) rfl ?_
    refine x_aload (pc := 590) (j := 3) (dK D_Law_forms_6 13 rfl) rfl ?_
    refine bnE h ?_
    clear h
    intro v186 e_v186 h
    refine wx_getV (pc := 592) (ci := 12) (f := 8) e_v186 (dK D_Law_forms_6 14 rfl) q_784 (ltK rfl) (ltK rfl) (fun hv186 => ?_)
    refine x_iload (pc := 595) (j := 5) (dK D_Law_forms_6 15 rfl) rfl ?_
    refine rfE h ?_
    clear h
    intro r187 e_r187 h
    rw [e_r187]
    refine bnE h ?_
    clear h
    intro v188 e_v188 h
    refine wx_zald (pc := 597) e_v188 ha7 (dK D_Law_forms_6 16 rfl) ?_
    refine wx_if_eq (pc := 598) (t := 605) (dK D_Law_forms_6 17 rfl) rfl (vI_at e_v188).2 (fun hc194 => ?_) (fun hc194 => ?_)
    · replace h := ifP h hc194
      refine x_aload (pc := 605) (j := 3) (dK D_Law_forms_6 20 rfl) rfl ?_
      refine bnE h ?_
      clear h
      intro v189 e_v189 h
      refine wx_getV (pc := 607) (ci := 12) (f := 9) e_v189 (dK D_Law_forms_6 21 rfl) q_786 (ltK rfl) (ltK rfl) (fun hv189 => ?_)
      refine x_iload (pc := 610) (j := 5) (dK D_Law_forms_6 22 rfl) rfl ?_
      refine rfE h ?_
      clear h
      intro r190 e_r190 h
      rw [e_r190]
      refine bnE h ?_
      clear h
      intro v191 e_v191 h
      refine wx_iald (pc := 612) e_v191 ha7 (dK D_Law_forms_6 23 rfl) ?_
      refine wx_mmax (pc := 613) (dK D_Law_forms_6 24 rfl) q_1594 (leK rfl) (leK rfl) hk0 hn0 ha6 (vI_at e_v191).2 ?_
      refine x_istore (pc := 616) (ls2 := [(6, V (i_max a6 v191)), (0, .ref 0), (1, .ref c1), (2, V a2), (5, .ref c5), (7, V a7)]) (dK D_Law_forms_6 25 rfl) (ltK rfl) rfl ?_
      refine nmE h ?_
      clear h
      intro v192 e_v192 h
      refine wx_iinc (pc := 618) (j := 5) (a := a7) (z := 1) (ls2 := [(7, V v192), (6, V (i_max a6 v191)), (0, .ref 0), (1, .ref c1), (2, V a2), (5, .ref c5)]) (dK D_Law_forms_6 26 rfl) rfl e_v192 (ltK rfl) rfl ?_
      refine x_goto (pc := 621) (tgt := 577) (dK D_Law_forms_6 27 rfl) rfl ?_
      refine x_weak (ls' := [(0, .ref 0), (1, .ref c1), (2, V a2), (5, .ref c5), (6, V (i_max a6 v191)), (7, V v192)]) (sbc 2 rfl (sbc 3 rfl (sbc 4 rfl (sbc 5 rfl (sbc 1 rfl (sbc 0 rfl sbn)))))) ?_
      replace h := ih _ _ h
      exact h (i_max_in ha6 (vI_at e_v191).2) (Vn_in e_v192) hx
    · replace h := ifN h hc194
      refine wx_iconst (pc := 601) (dK D_Law_forms_6 18 rfl) ?_
      refine x_goto (pc := 602) (tgt := 613) (dK D_Law_forms_6 19 rfl) rfl ?_
      refine wx_mmax (pc := 613) (dK D_Law_forms_6 24 rfl) q_1594 (leK rfl) (leK rfl) hk0 hn0 ha6 (inRk rfl) ?_
      refine x_istore (pc := 616) (ls2 := [(6, V (i_max a6 0)), (0, .ref 0), (1, .ref c1), (2, V a2), (5, .ref c5), (7, V a7)]) (dK D_Law_forms_6 25 rfl) (ltK rfl) rfl ?_
      refine nmE h ?_
      clear h
      intro v193 e_v193 h
      refine wx_iinc (pc := 618) (j := 5) (a := a7) (z := 1) (ls2 := [(7, V v193), (6, V (i_max a6 0)), (0, .ref 0), (1, .ref c1), (2, V a2), (5, .ref c5)]) (dK D_Law_forms_6 26 rfl) rfl e_v193 (ltK rfl) rfl ?_
      refine x_goto (pc := 621) (tgt := 577) (dK D_Law_forms_6 27 rfl) rfl ?_
      refine x_weak (ls' := [(0, .ref 0), (1, .ref c1), (2, V a2), (5, .ref c5), (6, V (i_max a6 0)), (7, V v193)]) (sbc 2 rfl (sbc 3 rfl (sbc 4 rfl (sbc 5 rfl (sbc 1 rfl (sbc 0 rfl sbn)))))) ?_
      replace h := ih _ _ h
      exact h (i_max_in ha6 (inRk rfl)) (Vn_in e_v193) hx
def gn_Law_forms (c1 : Nat) (S : St) (L : List PC) : Option ((Bool × LZ) × Nat × Nat) := if (0 : Int) ≤ 8 ∧ (8 : Int) ≤ 16384 then (if L.length < 900000000 then adC 1 (8 : Int).toNat (nw L (100, List.replicate (8 : Int).toNat (.int 0)) fun r4 L5 => bnT (lo2_Law_forms_13 c1 r4 FU ((-1), 0, (S, L5))) (fun r127 => some ((r127.1, (r127.2.1, r127.2.2)), 0, 0)) fun e128 => bnT (lo2_Law_forms_392 c1 e128.1 r4 FU (1, (e128.2.1, e128.2.2))) (fun r178 => some ((r178.1, (r178.2.1, r178.2.2)), 0, 0)) fun e179 => if isK e179.2 c1 12 = true then (bnO (gn_LP_copy c1 e179.1 e179.2) fun p180 => adC p180.2.1 p180.2.2 (rfB p180.1.1 fun r182 => bnO (gfI p180.1.2.2 r182 12 2) fun v183 => bnO (lo2_Law_forms_577 c1 e128.1 r182 p180.1.2.1 p180.1.2.2 FU (v183, 0)) fun p196 => bnO (gfI p180.1.2.2 r182 12 2) fun v197 => nm (wr (p196 - v197)) fun v198 => if isK p180.1.2.2 r182 12 = true then (bnO (gn_LP_pass r182 v198 p180.1.2.1 p180.1.2.2) fun p199 => adC p199.2.1 p199.2.2 (bnO (fn_FP_nextClosing 0 p199.1.2.1) fun p201 => if p201 = e128.1 then (bnO (fn_FP_endangered 0 p199.1.2.1) fun p202 => bnO (gfI p199.1.2.2 r182 12 3) fun v203 => bnO (gfI p199.1.2.2 c1 12 3) fun v204 => nm (wr (v203 - v204)) fun v205 => if p202 = v205 then (some ((true, (p199.1.2.1, p199.1.2.2)), 0, 0)) else (some ((false, (p199.1.2.1, p199.1.2.2)), 0, 0))) else (some ((false, (p199.1.2.1, p199.1.2.2)), 0, 0)))) else none)) else none) else none) else none
theorem te_Law_forms {sc : SC} {c1 : Nat} {S : St} {L : List PC} {q : (Bool × LZ) × Nat × Nat} (h : gn_Law_forms c1 S L = some q) {mc ms k n : Nat} (hb : Bd k n mc ms q) : GX sc M_Law_forms mc ms 0 [(0, .ref 0), (1, .ref c1)] [] (wz (S, L)) k n (KXB q.1.1 q.1.2) := by
  unfold gn_Law_forms at h
  refine wx_iconst (pc := 0) (dK D_Law_forms_0 0 rfl) ?_
  refine x_istoren (pc := 1) (i0 := 2) (ls2 := [(2, V (-1)), (0, .ref 0), (1, .ref c1)]) (dK D_Law_forms_0 1 rfl) rfl (ltK rfl) rfl ?_
  refine wx_iconst (pc := 2) (dK D_Law_forms_0 2 rfl) ?_
  refine x_istoren (pc := 3) (i0 := 3) (ls2 := [(3, V 0), (2, V (-1)), (0, .ref 0), (1, .ref c1)]) (dK D_Law_forms_0 3 rfl) rfl (ltK rfl) rfl ?_
  refine wx_bipush (pc := 4) (dK D_Law_forms_0 4 rfl) rfl ?_
  refine gdE h ?_
  clear h
  intro hz1 h
  refine gdE h ?_
  clear h
  intro hl2 h
  obtain ⟨y3, h9, e9⟩ := adE2 h
  clear h
  subst e9
  have h := h9
  clear h9
  refine nwE h ?_
  clear h
  intro r4 L5 e_r4 e_L5 h
  have hk1 := bd1 hb
  have hn1 := bd2 hb
  replace hb := bdA hb
  refine wn_newa_int (Z := (S, L)) (pc := 6) e_r4 e_L5 hl2 (inRk rfl) hz1 (dK D_Law_forms_0 5 rfl) q_68 hk1 hn1 ?_
  refine x_astore (pc := 8) (ls2 := [(4, .ref r4), (3, V 0), (2, V (-1)), (0, .ref 0), (1, .ref c1)]) (dK D_Law_forms_0 6 rfl) (ltK rfl) rfl ?_
  refine wx_iconst (pc := 10) (dK D_Law_forms_0 7 rfl) ?_
  refine x_istore (pc := 11) (ls2 := [(5, V 0), (4, .ref r4), (3, V 0), (2, V (-1)), (0, .ref 0), (1, .ref c1)]) (dK D_Law_forms_0 8 rfl) (ltK rfl) rfl ?_
  refine bnTE h ?_ ?_
  · clear h
    intro p126 r127 yp126 e_p126 f_p126 h e9
    subst e9
    have hk1 := bd1 hb
    have hn1 := bd2 hb
    replace hb := bdA hb
    refine x_weak (ls' := [(0, .ref 0), (1, .ref c1), (2, V (-1)), (4, .ref r4), (5, V 0)]) (sbc 4 rfl (sbc 5 rfl (sbc 3 rfl (sbc 1 rfl (sbc 0 rfl sbn))))) ?_
    refine tl2_Law_forms_13  hk1 hn1 FU _ _ e_p126 _ _ ⟨Nat.le_refl _, Nat.le_refl _⟩ (inRk rfl) (inRk rfl) (fun _ g_ => by rw [f_p126] at g_; exact nomatch g_) (fun r_ g_  => ?_)
    obtain rfl := Sum.inl.inj (f_p126.symm.trans g_)
    obtain rfl := Option.some.inj h
    exact ⟨rfl, rfl⟩
  · clear h
    intro p126 e128 yp126 e_p126 f_p126 h e9
    subst e9
    have hk1 := bd1 hb
    have hn1 := bd2 hb
    replace hb := bdA hb
    refine x_weak (ls' := [(0, .ref 0), (1, .ref c1), (2, V (-1)), (4, .ref r4), (5, V 0)]) (sbc 4 rfl (sbc 5 rfl (sbc 3 rfl (sbc 1 rfl (sbc 0 rfl sbn))))) ?_
    refine tl2_Law_forms_13  hk1 hn1 FU _ _ e_p126 _ _ ⟨Nat.le_refl _, Nat.le_refl _⟩ (inRk rfl) (inRk rfl) (fun e_ g_ hx2_p126 => ?_) (fun _ g_ => by rw [f_p126] at g_; exact nomatch g_)
    obtain rfl := Sum.inr.inj (f_p126.symm.trans g_)
    refine wx_iconst (pc := 389) (dK D_Law_forms_4 8 rfl) ?_
    refine x_istore (pc := 390) (ls2 := [(5, V 1), (0, .ref 0), (1, .ref c1), (2, V e128.1), (4, .ref r4)]) (dK D_Law_forms_4 9 rfl) (ltK rfl) rfl ?_
    refine bnTE h ?_ ?_
    · clear h
      intro p177 r178 yp177 e_p177 f_p177 h e9
      subst e9
      have hk1 := bd1 hb
      have hn1 := bd2 hb
      replace hb := bdA hb
      refine x_weak (ls' := [(0, .ref 0), (1, .ref c1), (2, V e128.1), (4, .ref r4), (5, V 1)]) (sbc 1 rfl (sbc 2 rfl (sbc 3 rfl (sbc 4 rfl (sbc 0 rfl sbn))))) ?_
      refine tl2_Law_forms_392 hx2_p126 hk1 hn1 FU _ _ e_p177 _ _ ⟨Nat.le_refl _, Nat.le_refl _⟩ (inRk rfl) (fun _ g_ => by rw [f_p177] at g_; exact nomatch g_) (fun r_ g_  => ?_)
      obtain rfl := Sum.inl.inj (f_p177.symm.trans g_)
      obtain rfl := Option.some.inj h
      exact ⟨rfl, rfl⟩
    · clear h
      intro p177 e179 yp177 e_p177 f_p177 h e9
      subst e9
      have hk1 := bd1 hb
      have hn1 := bd2 hb
      replace hb := bdA hb
      refine x_weak (ls' := [(0, .ref 0), (1, .ref c1), (2, V e128.1), (4, .ref r4), (5, V 1)]) (sbc 1 rfl (sbc 2 rfl (sbc 3 rfl (sbc 4 rfl (sbc 0 rfl sbn))))) ?_
      refine tl2_Law_forms_392 hx2_p126 hk1 hn1 FU _ _ e_p177 _ _ ⟨Nat.le_refl _, Nat.le_refl _⟩ (inRk rfl) (fun e_ g_  => ?_) (fun _ g_ => by rw [f_p177] at g_; exact nomatch g_)
      obtain rfl := Sum.inr.inj (f_p177.symm.trans g_)
      refine x_aloadn (pc := 561) (i0 := 1) (j := 1) (dK D_Law_forms_5 48 rfl) rfl rfl ?_
      refine gdE h ?_
      clear h
      intro hk181 h
      refine bnE h ?_
      clear h
      intro p180 e_p180 h
      obtain ⟨yp180, h9, e9⟩ := adE2 h
      clear h
      subst e9
      have h := h9
      clear h9
      have hk1 := bd1 hb
      have hn1 := bd2 hb
      replace hb := bdA hb
      refine x_callX (pc := 562) (As := []) (rest := []) (mc' := p180.2.1) (ms' := p180.2.2) (dK D_Law_forms_5 49 rfl) Q_Law_243 sx_LP_copy (fitK rfl) (isK_at (Z := (e179.1, e179.2)) (ci := 12) hk181) rfl (leK rfl) hk1 hn1 (tg_LP_copy  e_p180) (kxR (fun h_p180 => ?_))
      refine x_astoreV (pc := 565) (ls2 := [(5, p180.1.1), (0, .ref 0), (1, .ref c1), (2, V e128.1)]) h_p180 (dK D_Law_forms_6 0 rfl) (ltK rfl) rfl ?_
      refine x_aloadV (pc := 567) (j := 0) h_p180 (dK D_Law_forms_6 1 rfl) rfl ?_
      refine rfE h ?_
      clear h
      intro r182 e_r182 h
      rw [e_r182]
      refine bnE h ?_
      clear h
      intro v183 e_v183 h
      refine wx_getI (pc := 569) (ci := 12) (f := 2) e_v183 (dK D_Law_forms_6 2 rfl) q_772 (ltK rfl) (ltK rfl) ?_
      refine x_istore (pc := 572) (ls2 := [(6, V v183), (5, .ref r182), (0, .ref 0), (1, .ref c1), (2, V e128.1)]) (dK D_Law_forms_6 3 rfl) (ltK rfl) rfl ?_
      refine wx_iconst (pc := 574) (dK D_Law_forms_6 4 rfl) ?_
      refine x_istore (pc := 575) (ls2 := [(7, V 0), (6, V v183), (5, .ref r182), (0, .ref 0), (1, .ref c1), (2, V e128.1)]) (dK D_Law_forms_6 5 rfl) (ltK rfl) rfl ?_
      refine bnE h ?_
      clear h
      intro p196 e_p196 h
      refine x_weak (ls' := [(0, .ref 0), (1, .ref c1), (2, V e128.1), (5, .ref r182), (6, V v183), (7, V 0)]) (sbc 3 rfl (sbc 4 rfl (sbc 5 rfl (sbc 2 rfl (sbc 1 rfl (sbc 0 rfl sbn)))))) ?_
      refine tl2_Law_forms_577 hx2_p126 (bdk hb) (bdn hb) FU _ _ e_p196 (vI_at e_v183).2 (inRk rfl) (fun hx6_p196 => ?_)
      refine x_aload (pc := 624) (j := 3) (dK D_Law_forms_6 28 rfl) rfl ?_
      refine x_iload (pc := 626) (j := 4) (dK D_Law_forms_6 29 rfl) rfl ?_
      refine x_aload (pc := 628) (j := 3) (dK D_Law_forms_6 30 rfl) rfl ?_
      refine bnE h ?_
      clear h
      intro v197 e_v197 h
      refine wx_getI (pc := 630) (ci := 12) (f := 2) e_v197 (dK D_Law_forms_6 31 rfl) q_772 (ltK rfl) (ltK rfl) ?_
      refine wx_isub (pc := 633) (dK D_Law_forms_6 32 rfl) ?_
      refine nmE h ?_
      clear h
      intro v198 e_v198 h
      refine wtop e_v198 ?_
      refine gdE h ?_
      clear h
      intro hk200 h
      refine bnE h ?_
      clear h
      intro p199 e_p199 h
      obtain ⟨yp199, h9, e9⟩ := adE2 h
      clear h
      subst e9
      have h := h9
      clear h9
      have hk1 := bd1 hb
      have hn1 := bd2 hb
      replace hb := bdA hb
      refine x_callX (pc := 634) (As := [V v198]) (rest := []) (mc' := p199.2.1) (ms' := p199.2.2) (dK D_Law_forms_6 33 rfl) Q_Law_252 sx_LP_pass (fitK rfl) (isK_at (Z := (p180.1.2.1, p180.1.2.2)) (ci := 12) hk200) rfl (leK rfl) hk1 hn1 (tg_LP_pass (Vn_in e_v198) e_p199) (kxI' (fun h_p199 => ?_))
      refine x_pop (pc := 637) (dK D_Law_forms_6 34 rfl) rfl ?_
      refine x_aloadn (pc := 638) (i0 := 0) (j := 0) (dK D_Law_forms_6 35 rfl) rfl rfl ?_
      refine bnE h ?_
      clear h
      intro p201 e_p201 h
      refine x_callX (pc := 639) (As := []) (rest := []) (mc' := 0) (ms' := 0) (dK D_Law_forms_6 36 rfl) Q_Law_255 sx_FP_nextClosing (fitK rfl) (isK_at (Z := (p199.1.2.1, p199.1.2.2)) (ci := 10) isK0) rfl (leK rfl) (bdk hb) (bdn hb) (clI (fun E => tf_FP_nextClosing (X := xz p199.1.2.2) xz_hc  e_p201)) (kxI' (fun h_p201 => ?_))
      refine x_iloadn (pc := 642) (i0 := 2) (j := 2) (dK D_Law_forms_6 37 rfl) rfl rfl ?_
      refine wx_icmp_ne (pc := 643) (t := 667) (dK D_Law_forms_6 38 rfl) rfl h_p201 hx2_p126 (fun hc207 => ?_) (fun hc207 => ?_)
      · replace h := ifN h hc207
        refine wx_iconst (pc := 667) (dK D_Law_forms_6 49 rfl) ?_
        obtain rfl := Option.some.inj h
        exact wk_iretB (pc := 668) (b := false) (dK D_Law_forms_7 0 rfl) rfl (bdk hb) (bdn hb) ⟨rfl, rfl⟩
      · replace h := ifP h hc207
        refine x_aloadn (pc := 646) (i0 := 0) (j := 0) (dK D_Law_forms_6 39 rfl) rfl rfl ?_
        refine bnE h ?_
        clear h
        intro p202 e_p202 h
        refine x_callX (pc := 647) (As := []) (rest := []) (mc' := 0) (ms' := 0) (dK D_Law_forms_6 40 rfl) Q_Law_258 sx_FP_endangered (fitK rfl) (isK_at (Z := (p199.1.2.1, p199.1.2.2)) (ci := 10) isK0) rfl (leK rfl) (bdk hb) (bdn hb) (clI (fun E => tf_FP_endangered (X := xz p199.1.2.2) xz_hc  e_p202)) (kxI' (fun h_p202 => ?_))
        refine x_aload (pc := 650) (j := 3) (dK D_Law_forms_6 41 rfl) rfl ?_
        refine bnE h ?_
        clear h
        intro v203 e_v203 h
        refine wx_getI (pc := 652) (ci := 12) (f := 3) e_v203 (dK D_Law_forms_6 42 rfl) q_774 (ltK rfl) (ltK rfl) ?_
        refine x_aloadn (pc := 655) (i0 := 1) (j := 1) (dK D_Law_forms_6 43 rfl) rfl rfl ?_
        refine bnE h ?_
        clear h
        intro v204 e_v204 h
        refine wx_getI (pc := 656) (ci := 12) (f := 3) e_v204 (dK D_Law_forms_6 44 rfl) q_774 (ltK rfl) (ltK rfl) ?_
        refine wx_isub (pc := 659) (dK D_Law_forms_6 45 rfl) ?_
        refine nmE h ?_
        clear h
        intro v205 e_v205 h
        refine wtop e_v205 ?_
        refine wx_icmp_ne (pc := 660) (t := 667) (dK D_Law_forms_6 46 rfl) rfl h_p202 (Vn_in e_v205) (fun hc206 => ?_) (fun hc206 => ?_)
        · replace h := ifN h hc206
          refine wx_iconst (pc := 667) (dK D_Law_forms_6 49 rfl) ?_
          obtain rfl := Option.some.inj h
          exact wk_iretB (pc := 668) (b := false) (dK D_Law_forms_7 0 rfl) rfl (bdk hb) (bdn hb) ⟨rfl, rfl⟩
        · replace h := ifP h hc206
          refine wx_iconst (pc := 663) (dK D_Law_forms_6 47 rfl) ?_
          refine x_goto (pc := 664) (tgt := 668) (dK D_Law_forms_6 48 rfl) rfl ?_
          obtain rfl := Option.some.inj h
          exact wk_iretB (pc := 668) (b := true) (dK D_Law_forms_7 0 rfl) rfl (bdk hb) (bdn hb) ⟨rfl, rfl⟩
theorem tg_Law_forms {sc : SC} {c1 : Nat} {S : St} {L : List PC} {q : (Bool × LZ) × Nat × Nat} (h : gn_Law_forms c1 S L = some q) : EvX sc M_Law_forms [.ref 0, .ref c1] (wz (S, L)) q.2.1 q.2.2 (KXB q.1.1 q.1.2) := EvX.of pn2_Law rfl (leK rfl) (te_Law_forms  h ⟨Nat.le_of_eq (Nat.zero_add _), Nat.le_of_eq (Nat.zero_add _)⟩)
def gn_LP_isShut (c0 : Nat) (a1 : Int) (S : St) (L : List PC) : Option (Bool) := bnO (gfV L c0 12 8) fun v1 => if isK L c0 12 = true then (bnO (gn_LP_form c0 a1 S L) fun p2 => rfB v1 fun r4 => bnO (ald L 2 r4 p2) fun v5 => if v5 = 0 ∨ v5 = 1 then (some (decide (v5 = 1))) else none) else none
theorem te_LP_isShut {sc : SC} {c0 : Nat} {a1 : Int} (ha1 : inR a1) {S : St} {L : List PC} {q : Bool} (h : gn_LP_isShut c0 a1 S L = some q) {mc ms k n : Nat} (hk0 : k ≤ mc) (hn0 : n ≤ ms) : GX sc M_LP_isShut mc ms 0 [(0, .ref c0), (1, V a1)] [] (wz (S, L)) k n (KXB q (S, L)) := by
  unfold gn_LP_isShut at h
  refine x_aloadn (pc := 0) (i0 := 0) (j := 0) (dK D_LP_isShut 0 rfl) rfl rfl ?_
  refine bnE h ?_
  clear h
  intro v1 e_v1 h
  refine wx_getV (pc := 1) (ci := 12) (f := 8) e_v1 (dK D_LP_isShut 1 rfl) q_783 (ltK rfl) (ltK rfl) (fun hv1 => ?_)
  refine x_aloadn (pc := 4) (i0 := 0) (j := 0) (dK D_LP_isShut 2 rfl) rfl rfl ?_
  refine x_iloadn (pc := 5) (i0 := 1) (j := 1) (dK D_LP_isShut 3 rfl) rfl rfl ?_
  refine gdE h ?_
  clear h
  intro hk3 h
  refine bnE h ?_
  clear h
  intro p2 e_p2 h
  refine x_callX (pc := 6) (As := [V a1]) (rest := [v1]) (mc' := 0) (ms' := 0) (dK D_LP_isShut 4 rfl) Q_LP_79 sx_LP_form (fitK rfl) (isK_at (Z := (S, L)) (ci := 12) hk3) rfl (by simp only [List.map_cons, List.map_nil, cato hv1]; exact leK rfl) hk0 hn0 (tg_LP_form ha1 e_p2) (kxI' (fun h_p2 => ?_))
  refine rfE h ?_
  clear h
  intro r4 e_r4 h
  rw [e_r4]
  refine bnE h ?_
  clear h
  intro v5 e_v5 h
  refine wx_zald (pc := 9) e_v5 h_p2 (dK D_LP_isShut 5 rfl) ?_
  refine gdE h ?_
  clear h
  intro hb6 h
  obtain rfl := Option.some.inj h
  refine wsk (st' := [V (bi (decide (v5 = 1)))]) (congrArg (fun z => [z]) (V_bi hb6).symm) ?_
  exact wk_iretB (pc := 10) (b := (decide (v5 = 1))) (dK D_LP_isShut 6 rfl) rfl hk0 hn0 ⟨rfl, rfl⟩
theorem tg_LP_isShut {sc : SC} {c0 : Nat} {a1 : Int} (ha1 : inR a1) {S : St} {L : List PC} {q : Bool} (h : gn_LP_isShut c0 a1 S L = some q) : EvX sc M_LP_isShut [.ref c0, V a1] (wz (S, L)) 0 0 (KXB q (S, L)) := EvX.of pn2_LP rfl (leK rfl) (te_LP_isShut ha1 h (Nat.le_refl _) (Nat.le_refl _))
def gn_LP_sided (c0 : Nat) (c1 : Nat) (a2 : Int) (S : St) (L : List PC) : Option (Bool) := bnO (gfI L c1 11 2) fun v1 => if v1 = 0 then (some true) else (bnO (gfI L c1 11 2) fun v2 => if v2 = 1 then (nm (wr (a2.tmod 2)) fun v7 => if v7 = 0 then (some true) else (bnO (gfI L c1 11 2) fun v8 => if v8 = 2 then (nm (wr (a2.tmod 2)) fun v9 => if v9 = 1 then (some true) else (some false)) else (some false))) else (bnO (gfI L c1 11 2) fun v3 => if v3 = 2 then (nm (wr (a2.tmod 2)) fun v4 => if v4 = 1 then (some true) else (some false)) else (some false)))
theorem te_LP_sided {sc : SC} {c0 : Nat} {c1 : Nat} {a2 : Int} (ha2 : inR a2) {S : St} {L : List PC} {q : Bool} (h : gn_LP_sided c0 c1 a2 S L = some q) {mc ms k n : Nat} (hk0 : k ≤ mc) (hn0 : n ≤ ms) : GX sc M_LP_sided mc ms 0 [(0, .ref c0), (1, .ref c1), (2, V a2)] [] (wz (S, L)) k n (KXB q (S, L)) := by
  unfold gn_LP_sided at h
  refine x_aloadn (pc := 0) (i0 := 1) (j := 1) (dK D_LP_sided 0 rfl) rfl rfl ?_
  refine bnE h ?_
  clear h
  intro v1 e_v1 h
  refine wx_getI (pc := 1) (ci := 11) (f := 2) e_v1 (dK D_LP_sided 1 rfl) q_880 (ltK rfl) (ltK rfl) ?_
  refine wx_if_eq (pc := 4) (t := 36) (dK D_LP_sided 2 rfl) rfl (vI_at e_v1).2 (fun hc14 => ?_) (fun hc14 => ?_)
  · replace h := ifP h hc14
    refine wx_iconst (pc := 36) (dK D_LP_sided 20 rfl) ?_
    refine x_goto (pc := 37) (tgt := 41) (dK D_LP_sided 21 rfl) rfl ?_
    obtain rfl := Option.some.inj h
    exact wk_iretB (pc := 41) (b := true) (dK D_LP_sided 23 rfl) rfl hk0 hn0 ⟨rfl, rfl⟩
  · replace h := ifN h hc14
    refine x_aloadn (pc := 7) (i0 := 1) (j := 1) (dK D_LP_sided 3 rfl) rfl rfl ?_
    refine bnE h ?_
    clear h
    intro v2 e_v2 h
    refine wx_getI (pc := 8) (ci := 11) (f := 2) e_v2 (dK D_LP_sided 4 rfl) q_880 (ltK rfl) (ltK rfl) ?_
    refine wx_iconst (pc := 11) (dK D_LP_sided 5 rfl) ?_
    refine wx_icmp_ne (pc := 12) (t := 21) (dK D_LP_sided 6 rfl) rfl (vI_at e_v2).2 (inRk rfl) (fun hc13 => ?_) (fun hc13 => ?_)
    · replace h := ifN h hc13
      refine x_aloadn (pc := 21) (i0 := 1) (j := 1) (dK D_LP_sided 11 rfl) rfl rfl ?_
      refine bnE h ?_
      clear h
      intro v3 e_v3 h
      refine wx_getI (pc := 22) (ci := 11) (f := 2) e_v3 (dK D_LP_sided 12 rfl) q_880 (ltK rfl) (ltK rfl) ?_
      refine wx_iconst (pc := 25) (dK D_LP_sided 13 rfl) ?_
      refine wx_icmp_ne (pc := 26) (t := 40) (dK D_LP_sided 14 rfl) rfl (vI_at e_v3).2 (inRk rfl) (fun hc6 => ?_) (fun hc6 => ?_)
      · replace h := ifN h hc6
        refine wx_iconst (pc := 40) (dK D_LP_sided 22 rfl) ?_
        obtain rfl := Option.some.inj h
        exact wk_iretB (pc := 41) (b := false) (dK D_LP_sided 23 rfl) rfl hk0 hn0 ⟨rfl, rfl⟩
      · replace h := ifP h hc6
        refine x_iloadn (pc := 29) (i0 := 2) (j := 2) (dK D_LP_sided 15 rfl) rfl rfl ?_
        refine wx_iconst (pc := 30) (dK D_LP_sided 16 rfl) ?_
        refine wx_irem (pc := 31) (dK D_LP_sided 17 rfl) ha2 (inRk rfl) (by decide) ?_
        refine wx_iconst (pc := 32) (dK D_LP_sided 18 rfl) ?_
        refine nmE h ?_
        clear h
        intro v4 e_v4 h
        refine wsk (st' := [V 1, V v4]) (congrArg (fun z9 => [V 1, z9]) (Vn e_v4)) ?_
        refine wx_icmp_ne (pc := 33) (t := 40) (dK D_LP_sided 19 rfl) rfl (Vn_in e_v4) (inRk rfl) (fun hc5 => ?_) (fun hc5 => ?_)
        · replace h := ifN h hc5
          refine wx_iconst (pc := 40) (dK D_LP_sided 22 rfl) ?_
          obtain rfl := Option.some.inj h
          exact wk_iretB (pc := 41) (b := false) (dK D_LP_sided 23 rfl) rfl hk0 hn0 ⟨rfl, rfl⟩
        · replace h := ifP h hc5
          refine wx_iconst (pc := 36) (dK D_LP_sided 20 rfl) ?_
          refine x_goto (pc := 37) (tgt := 41) (dK D_LP_sided 21 rfl) rfl ?_
          obtain rfl := Option.some.inj h
          exact wk_iretB (pc := 41) (b := true) (dK D_LP_sided 23 rfl) rfl hk0 hn0 ⟨rfl, rfl⟩
    · replace h := ifP h hc13
      refine x_iloadn (pc := 15) (i0 := 2) (j := 2) (dK D_LP_sided 7 rfl) rfl rfl ?_
      refine wx_iconst (pc := 16) (dK D_LP_sided 8 rfl) ?_
      refine wx_irem (pc := 17) (dK D_LP_sided 9 rfl) ha2 (inRk rfl) (by decide) ?_
      refine nmE h ?_
      clear h
      intro v7 e_v7 h
      refine wtop e_v7 ?_
      refine wx_if_eq (pc := 18) (t := 36) (dK D_LP_sided 10 rfl) rfl (Vn_in e_v7) (fun hc12 => ?_) (fun hc12 => ?_)
      · replace h := ifP h hc12
        refine wx_iconst (pc := 36) (dK D_LP_sided 20 rfl) ?_
        refine x_goto (pc := 37) (tgt := 41) (dK D_LP_sided 21 rfl) rfl ?_
        obtain rfl := Option.some.inj h
        exact wk_iretB (pc := 41) (b := true) (dK D_LP_sided 23 rfl) rfl hk0 hn0 ⟨rfl, rfl⟩
      · replace h := ifN h hc12
        refine x_aloadn (pc := 21) (i0 := 1) (j := 1) (dK D_LP_sided 11 rfl) rfl rfl ?_
        refine bnE h ?_
        clear h
        intro v8 e_v8 h
        refine wx_getI (pc := 22) (ci := 11) (f := 2) e_v8 (dK D_LP_sided 12 rfl) q_880 (ltK rfl) (ltK rfl) ?_
        refine wx_iconst (pc := 25) (dK D_LP_sided 13 rfl) ?_
        refine wx_icmp_ne (pc := 26) (t := 40) (dK D_LP_sided 14 rfl) rfl (vI_at e_v8).2 (inRk rfl) (fun hc11 => ?_) (fun hc11 => ?_)
        · replace h := ifN h hc11
          refine wx_iconst (pc := 40) (dK D_LP_sided 22 rfl) ?_
          obtain rfl := Option.some.inj h
          exact wk_iretB (pc := 41) (b := false) (dK D_LP_sided 23 rfl) rfl hk0 hn0 ⟨rfl, rfl⟩
        · replace h := ifP h hc11
          refine x_iloadn (pc := 29) (i0 := 2) (j := 2) (dK D_LP_sided 15 rfl) rfl rfl ?_
          refine wx_iconst (pc := 30) (dK D_LP_sided 16 rfl) ?_
          refine wx_irem (pc := 31) (dK D_LP_sided 17 rfl) ha2 (inRk rfl) (by decide) ?_
          refine wx_iconst (pc := 32) (dK D_LP_sided 18 rfl) ?_
          refine nmE h ?_
          clear h
          intro v9 e_v9 h
          refine wsk (st' := [V 1, V v9]) (congrArg (fun z9 => [V 1, z9]) (Vn e_v9)) ?_
          refine wx_icmp_ne (pc := 33) (t := 40) (dK D_LP_sided 19 rfl) rfl (Vn_in e_v9) (inRk rfl) (fun hc10 => ?_) (fun hc10 => ?_)
          · replace h := ifN h hc10
            refine wx_iconst (pc := 40) (dK D_LP_sided 22 rfl) ?_
            obtain rfl := Option.some.inj h
            exact wk_iretB (pc := 41) (b := false) (dK D_LP_sided 23 rfl) rfl hk0 hn0 ⟨rfl, rfl⟩
          · replace h := ifP h hc10
            refine wx_iconst (pc := 36) (dK D_LP_sided 20 rfl) ?_
            refine x_goto (pc := 37) (tgt := 41) (dK D_LP_sided 21 rfl) rfl ?_
            obtain rfl := Option.some.inj h
            exact wk_iretB (pc := 41) (b := true) (dK D_LP_sided 23 rfl) rfl hk0 hn0 ⟨rfl, rfl⟩
theorem tg_LP_sided {sc : SC} {c0 : Nat} {c1 : Nat} {a2 : Int} (ha2 : inR a2) {S : St} {L : List PC} {q : Bool} (h : gn_LP_sided c0 c1 a2 S L = some q) : EvX sc M_LP_sided [.ref c0, .ref c1, V a2] (wz (S, L)) 0 0 (KXB q (S, L)) := EvX.of pn2_LP rfl (leK rfl) (te_LP_sided ha2 h (Nat.le_refl _) (Nat.le_refl _))
def lb2_LP_rival_2 (c0 : Nat) (c1 : Nat) (a2 : Int) (S : St) (L : List PC) (go : Int → Option ((Bool) ⊕ (Unit))) (a3 : Int) : Option ((Bool) ⊕ (Unit)) := bnO (gfV L c0 12 4) fun v1 => rfB v1 fun r2 => if isK L r2 13 = true then (bnO (gn_AL_size r2 S L) fun p3 => if p3 ≤ a3 then (some (.inr ())) else (bnO (gfI L c1 11 1) fun v5 => if v5 ≤ 0 then (some (.inr ())) else (bnO (gfV L c0 12 4) fun v6 => rfB v6 fun r7 => if isK L r7 13 = true then (bnO (gn_AL_get r7 a3 S L) fun p8 => rfB p8 fun r10 => if isK L r10 11 = true then (if apq L r10 c1 = true then (if r10 = c1 then (nm (wr (a3 + 1)) fun v14 => go v14) else (bnO (gfI L r10 11 1) fun v15 => bnO (gfI L c1 11 1) fun v16 => if v15 = v16 then (bnO (gfI L r10 11 5) fun v18 => if v18 ≤ 0 then (nm (wr (a3 + 1)) fun v19 => go v19) else (bnO (gfI L r10 11 5) fun v20 => nm (wr (a2.tdiv 2)) fun v21 => nm (wr (v20.tdiv 2)) fun v22 => if v22 = v21 then (some (.inl true)) else (nm (wr (a3 + 1)) fun v23 => go v23))) else (nm (wr (a3 + 1)) fun v17 => go v17))) else none) else none) else none))) else none
def lo2_LP_rival_2 (c0 : Nat) (c1 : Nat) (a2 : Int) (S : St) (L : List PC) : Nat → Int → Option ((Bool) ⊕ (Unit)) := lp fun go p => lb2_LP_rival_2 c0 c1 a2 S L go p
theorem tl2_LP_rival_2 {sc : SC} {c0 : Nat} {c1 : Nat} {a2 : Int} (ha2 : inR a2) {K : Option Value → List PC → Prop} {S : St} {L : List PC} {mc ms k n : Nat} (hk0 : k ≤ mc) (hn0 : n ≤ ms) : ∀ (N : Nat) (a : Int) (q : (Bool) ⊕ (Unit)), lo2_LP_rival_2 c0 c1 a2 S L N a = some q → inR a → (∀ e, q = .inr e → GX sc M_LP_rival mc ms 80 [] [] (wz (S, L)) k n K) → (∀ r, q = .inl r → K (some (V (bi r))) (wz (S, L))) → GX sc M_LP_rival mc ms 2 [(0, .ref c0), (1, .ref c1), (2, V a2), (3, V a)] [] (wz (S, L)) k n K := by
  refine lp_ind2 (P := fun (a : Int) (q : (Bool) ⊕ (Unit)) => inR a → (∀ e, q = .inr e → GX sc M_LP_rival mc ms 80 [] [] (wz (S, L)) k n K) → (∀ r, q = .inl r → K (some (V (bi r))) (wz (S, L))) → GX sc M_LP_rival mc ms 2 [(0, .ref c0), (1, .ref c1), (2, V a2), (3, V a)] [] (wz (S, L)) k n K) (fun go ih a q h => ?_)
  revert h; generalize a = a3; intro h
  intro ha3 hx hr
  show GX sc M_LP_rival mc ms 2 [(0, .ref c0), (1, .ref c1), (2, V a2), (3, V a3)] [] (wz (S, L)) k n K
  replace h : lb2_LP_rival_2 c0 c1 a2 S L go a3 = some q := h
  unfold lb2_LP_rival_2 at h
  refine x_iloadn (pc := 2) (i0 := 3) (j := 3) (dK D_LP_rival 2 rfl) rfl rfl ?_
  refine x_aloadn (pc := 3) (i0 := 0) (j := 0) (dK D_LP_rival 3 rfl) rfl rfl ?_
  refine bnE h ?_
  clear h
  intro v1 e_v1 h
  refine wx_getV (pc := 4) (ci := 12) (f := 4) e_v1 (dK D_LP_rival 4 rfl) q_775 (ltK rfl) (ltK rfl) (fun hv1 => ?_)
  refine rfE h ?_
  clear h
  intro r2 e_r2 h
  rw [e_r2]
  refine gdE h ?_
  clear h
  intro hk4 h
  refine bnE h ?_
  clear h
  intro p3 e_p3 h
  refine x_callX (pc := 7) (As := []) (rest := [V a3]) (mc' := 0) (ms' := 0) (dK D_LP_rival 5 rfl) Q_LP_83 sx_AL_size (fitK rfl) (isK_at (Z := (S, L)) (ci := 13) hk4) rfl (leK rfl) hk0 hn0 (tg_AL_size  e_p3) (kxI' (fun h_p3 => ?_))
  refine wx_icmp_ge (pc := 10) (t := 80) (dK D_LP_rival 6 rfl) rfl ha3 h_p3 (fun hc28 => ?_) (fun hc28 => ?_)
  · replace h := ifP h hc28
    obtain rfl := Option.some.inj h
    refine x_weak (ls' := []) sbn ?_
    exact hx () rfl
  · replace h := ifN h hc28
    refine x_aloadn (pc := 13) (i0 := 1) (j := 1) (dK D_LP_rival 7 rfl) rfl rfl ?_
    refine bnE h ?_
    clear h
    intro v5 e_v5 h
    refine wx_getI (pc := 14) (ci := 11) (f := 1) e_v5 (dK D_LP_rival 8 rfl) q_877 (ltK rfl) (ltK rfl) ?_
    refine wx_if_le (pc := 17) (t := 80) (dK D_LP_rival 9 rfl) rfl (vI_at e_v5).2 (fun hc27 => ?_) (fun hc27 => ?_)
    · replace h := ifP h hc27
      obtain rfl := Option.some.inj h
      refine x_weak (ls' := []) sbn ?_
      exact hx () rfl
    · replace h := ifN h hc27
      refine x_aloadn (pc := 20) (i0 := 0) (j := 0) (dK D_LP_rival 10 rfl) rfl rfl ?_
      refine bnE h ?_
      clear h
      intro v6 e_v6 h
      refine wx_getV (pc := 21) (ci := 12) (f := 4) e_v6 (dK D_LP_rival 11 rfl) q_775 (ltK rfl) (ltK rfl) (fun hv6 => ?_)
      refine x_iloadn (pc := 24) (i0 := 3) (j := 3) (dK D_LP_rival 12 rfl) rfl rfl ?_
      refine rfE h ?_
      clear h
      intro r7 e_r7 h
      rw [e_r7]
      refine gdE h ?_
      clear h
      intro hk9 h
      refine bnE h ?_
      clear h
      intro p8 e_p8 h
      refine x_callX (pc := 25) (As := [V a3]) (rest := []) (mc' := 0) (ms' := 0) (dK D_LP_rival 13 rfl) Q_LP_87 sx_AL_get (fitK rfl) (isK_at (Z := (S, L)) (ci := 13) hk9) rfl (leK rfl) hk0 hn0 (tg_AL_get ha3 e_p8) (kxR (fun h_p8 => ?_))
      refine rfE h ?_
      clear h
      intro r10 e_r10 h
      rw [e_r10]
      refine gdE h ?_
      clear h
      intro hk11 h
      refine x_cast (pc := 28) (dK D_LP_rival 14 rfl) q_861 (isK_at (Z := (S, L)) (ci := 11) hk11) ?_
      refine x_astore (pc := 31) (ls2 := [(4, .ref r10), (0, .ref c0), (1, .ref c1), (2, V a2), (3, V a3)]) (dK D_LP_rival 15 rfl) (ltK rfl) rfl ?_
      refine x_aload (pc := 33) (j := 0) (dK D_LP_rival 16 rfl) rfl ?_
      refine x_aloadn (pc := 35) (i0 := 1) (j := 2) (dK D_LP_rival 17 rfl) rfl rfl ?_
      refine gdE h ?_
      clear h
      intro hap12 h
      refine x_acmp_eq (pc := 36) (tgt := 74) (apq_at (Z := (S, L)) hap12) (dK D_LP_rival 18 rfl) rfl (fun hc13 => ?_) (fun hc13 => ?_)
      · replace h := ifP h hc13
        refine nmE h ?_
        clear h
        intro v14 e_v14 h
        refine wx_iinc (pc := 74) (j := 4) (a := a3) (z := 1) (ls2 := [(3, V v14), (4, .ref r10), (0, .ref c0), (1, .ref c1), (2, V a2)]) (dK D_LP_rival 37 rfl) rfl e_v14 (ltK rfl) rfl ?_
        refine x_goto (pc := 77) (tgt := 2) (dK D_LP_rival 38 rfl) rfl ?_
        refine x_weak (ls' := [(0, .ref c0), (1, .ref c1), (2, V a2), (3, V v14)]) (sbc 2 rfl (sbc 3 rfl (sbc 4 rfl (sbc 0 rfl sbn)))) ?_
        replace h := ih _ _ h
        exact h (Vn_in e_v14) hx hr
      · replace h := ifN h hc13
        refine x_aload (pc := 39) (j := 0) (dK D_LP_rival 19 rfl) rfl ?_
        refine bnE h ?_
        clear h
        intro v15 e_v15 h
        refine wx_getI (pc := 41) (ci := 11) (f := 1) e_v15 (dK D_LP_rival 20 rfl) q_877 (ltK rfl) (ltK rfl) ?_
        refine x_aloadn (pc := 44) (i0 := 1) (j := 2) (dK D_LP_rival 21 rfl) rfl rfl ?_
        refine bnE h ?_
        clear h
        intro v16 e_v16 h
        refine wx_getI (pc := 45) (ci := 11) (f := 1) e_v16 (dK D_LP_rival 22 rfl) q_877 (ltK rfl) (ltK rfl) ?_
        refine wx_icmp_ne (pc := 48) (t := 74) (dK D_LP_rival 23 rfl) rfl (vI_at e_v15).2 (vI_at e_v16).2 (fun hc26 => ?_) (fun hc26 => ?_)
        · replace h := ifN h hc26
          refine nmE h ?_
          clear h
          intro v17 e_v17 h
          refine wx_iinc (pc := 74) (j := 4) (a := a3) (z := 1) (ls2 := [(3, V v17), (4, .ref r10), (0, .ref c0), (1, .ref c1), (2, V a2)]) (dK D_LP_rival 37 rfl) rfl e_v17 (ltK rfl) rfl ?_
          refine x_goto (pc := 77) (tgt := 2) (dK D_LP_rival 38 rfl) rfl ?_
          refine x_weak (ls' := [(0, .ref c0), (1, .ref c1), (2, V a2), (3, V v17)]) (sbc 2 rfl (sbc 3 rfl (sbc 4 rfl (sbc 0 rfl sbn)))) ?_
          replace h := ih _ _ h
          exact h (Vn_in e_v17) hx hr
        · replace h := ifP h hc26
          refine x_aload (pc := 51) (j := 0) (dK D_LP_rival 24 rfl) rfl ?_
          refine bnE h ?_
          clear h
          intro v18 e_v18 h
          refine wx_getI (pc := 53) (ci := 11) (f := 5) e_v18 (dK D_LP_rival 25 rfl) q_888 (ltK rfl) (ltK rfl) ?_
          refine wx_if_le (pc := 56) (t := 74) (dK D_LP_rival 26 rfl) rfl (vI_at e_v18).2 (fun hc25 => ?_) (fun hc25 => ?_)
          · replace h := ifP h hc25
            refine nmE h ?_
            clear h
            intro v19 e_v19 h
            refine wx_iinc (pc := 74) (j := 4) (a := a3) (z := 1) (ls2 := [(3, V v19), (4, .ref r10), (0, .ref c0), (1, .ref c1), (2, V a2)]) (dK D_LP_rival 37 rfl) rfl e_v19 (ltK rfl) rfl ?_
            refine x_goto (pc := 77) (tgt := 2) (dK D_LP_rival 38 rfl) rfl ?_
            refine x_weak (ls' := [(0, .ref c0), (1, .ref c1), (2, V a2), (3, V v19)]) (sbc 2 rfl (sbc 3 rfl (sbc 4 rfl (sbc 0 rfl sbn)))) ?_
            replace h := ih _ _ h
            exact h (Vn_in e_v19) hx hr
          · replace h := ifN h hc25
            refine x_aload (pc := 59) (j := 0) (dK D_LP_rival 27 rfl) rfl ?_
            refine bnE h ?_
            clear h
            intro v20 e_v20 h
            refine wx_getI (pc := 61) (ci := 11) (f := 5) e_v20 (dK D_LP_rival 28 rfl) q_888 (ltK rfl) (ltK rfl) ?_
            refine wx_iconst (pc := 64) (dK D_LP_rival 29 rfl) ?_
            refine wx_idiv (pc := 65) (dK D_LP_rival 30 rfl) (vI_at e_v20).2 (inRk rfl) (by decide) ?_
            refine x_iloadn (pc := 66) (i0 := 2) (j := 3) (dK D_LP_rival 31 rfl) rfl rfl ?_
            refine wx_iconst (pc := 67) (dK D_LP_rival 32 rfl) ?_
            refine wx_idiv (pc := 68) (dK D_LP_rival 33 rfl) ha2 (inRk rfl) (by decide) ?_
            refine nmE h ?_
            clear h
            intro v21 e_v21 h
            refine wtop e_v21 ?_
            refine nmE h ?_
            clear h
            intro v22 e_v22 h
            refine wsk (st' := [V v21, V v22]) (congrArg (fun z9 => [V v21, z9]) (Vn e_v22)) ?_
            refine wx_icmp_ne (pc := 69) (t := 74) (dK D_LP_rival 34 rfl) rfl (Vn_in e_v22) (Vn_in e_v21) (fun hc24 => ?_) (fun hc24 => ?_)
            · replace h := ifN h hc24
              refine nmE h ?_
              clear h
              intro v23 e_v23 h
              refine wx_iinc (pc := 74) (j := 4) (a := a3) (z := 1) (ls2 := [(3, V v23), (4, .ref r10), (0, .ref c0), (1, .ref c1), (2, V a2)]) (dK D_LP_rival 37 rfl) rfl e_v23 (ltK rfl) rfl ?_
              refine x_goto (pc := 77) (tgt := 2) (dK D_LP_rival 38 rfl) rfl ?_
              refine x_weak (ls' := [(0, .ref c0), (1, .ref c1), (2, V a2), (3, V v23)]) (sbc 2 rfl (sbc 3 rfl (sbc 4 rfl (sbc 0 rfl sbn)))) ?_
              replace h := ih _ _ h
              exact h (Vn_in e_v23) hx hr
            · replace h := ifP h hc24
              refine wx_iconst (pc := 72) (dK D_LP_rival 35 rfl) ?_
              obtain rfl := Option.some.inj h
              exact wk_iretB (pc := 73) (b := true) (dK D_LP_rival 36 rfl) rfl hk0 hn0 (hr true rfl)
def gn_LP_rival (c0 : Nat) (c1 : Nat) (a2 : Int) (S : St) (L : List PC) : Option (Bool) := bnS (lo2_LP_rival_2 c0 c1 a2 S L FU 0) (fun r30 => some r30) fun e31 => some false
theorem te_LP_rival {sc : SC} {c0 : Nat} {c1 : Nat} {a2 : Int} (ha2 : inR a2) {S : St} {L : List PC} {q : Bool} (h : gn_LP_rival c0 c1 a2 S L = some q) {mc ms k n : Nat} (hk0 : k ≤ mc) (hn0 : n ≤ ms) : GX sc M_LP_rival mc ms 0 [(0, .ref c0), (1, .ref c1), (2, V a2)] [] (wz (S, L)) k n (KXB q (S, L)) := by
  unfold gn_LP_rival at h
  refine wx_iconst (pc := 0) (dK D_LP_rival 0 rfl) ?_
  refine x_istoren (pc := 1) (i0 := 3) (ls2 := [(3, V 0), (0, .ref c0), (1, .ref c1), (2, V a2)]) (dK D_LP_rival 1 rfl) rfl (ltK rfl) rfl ?_
  refine bnSE h ?_ ?_
  · clear h
    intro r30 e_p29 h
    refine x_weak (ls' := [(0, .ref c0), (1, .ref c1), (2, V a2), (3, V 0)]) (sbc 1 rfl (sbc 2 rfl (sbc 3 rfl (sbc 0 rfl sbn)))) ?_
    refine tl2_LP_rival_2 ha2 hk0 hn0 FU _ _ e_p29 (inRk rfl) (fun _ g_ => nomatch g_) (fun r_ g_  => ?_)
    obtain rfl := Sum.inl.inj g_
    obtain rfl := Option.some.inj h
    exact ⟨rfl, rfl⟩
  · clear h
    intro e31 e_p29 h
    refine x_weak (ls' := [(0, .ref c0), (1, .ref c1), (2, V a2), (3, V 0)]) (sbc 1 rfl (sbc 2 rfl (sbc 3 rfl (sbc 0 rfl sbn)))) ?_
    refine tl2_LP_rival_2 ha2 hk0 hn0 FU _ _ e_p29 (inRk rfl) (fun e_ g_  => ?_) (fun _ g_ => nomatch g_)
    obtain rfl := Sum.inr.inj g_
    refine wx_iconst (pc := 80) (dK D_LP_rival 39 rfl) ?_
    obtain rfl := Option.some.inj h
    exact wk_iretB (pc := 81) (b := false) (dK D_LP_rival 40 rfl) rfl hk0 hn0 ⟨rfl, rfl⟩
theorem tg_LP_rival {sc : SC} {c0 : Nat} {c1 : Nat} {a2 : Int} (ha2 : inR a2) {S : St} {L : List PC} {q : Bool} (h : gn_LP_rival c0 c1 a2 S L = some q) : EvX sc M_LP_rival [.ref c0, .ref c1, V a2] (wz (S, L)) 0 0 (KXB q (S, L)) := EvX.of pn2_LP rfl (leK rfl) (te_LP_rival ha2 h (Nat.le_refl _) (Nat.le_refl _))
def gn_LP_reason (c0 : Nat) (c1 : Nat) (a2 : Int) (S : St) (L : List PC) : Option ((Int × LZ) × Nat × Nat) := if a2 < 1 then (some ((1, (S, L)), 0, 0)) else (if isK L c0 12 = true then (bnO (gn_LP_pages c0 S L) fun p1 => if a2 ≤ p1 then (bnO (gfI L c1 11 5) fun v3 => bnO (pf L c1 11 5 (V 0)) fun L4 => if isK L4 c0 12 = true then (bnO (gn_LP_left c0 a2 S L4) fun p5 => bnO (pf L4 c1 11 5 (V v3)) fun L7 => if isK L7 c0 12 = true then (bnO (gn_LP_isShut c0 a2 S L7) fun p8 => if p8 = true then (some ((2, (S, L7)), 0, 0)) else (bnO (gfI L7 c1 11 0) fun v11 => if v11 ≤ p5 then (bnO (gfI L7 c1 11 6) fun v12 => if v12 = 0 then (if isK L7 c0 12 = true then (bnO (gn_LP_sided c0 c1 a2 S L7) fun p13 => if p13 = true then (if isK L7 c0 12 = true then (bnO (gn_LP_rival c0 c1 a2 S L7) fun p16 => if p16 = true then (some ((6, (S, L7)), 0, 0)) else (some ((0, (S, L7)), 0, 0))) else none) else (some ((5, (S, L7)), 0, 0))) else none) else (bnO (gfV L7 c0 12 7) fun v19 => if isK L7 c0 12 = true then (bnO (gn_LP_form c0 a2 S L7) fun p20 => rfB v19 fun r22 => bnO (ald L7 2 r22 p20) fun v23 => if v23 = 0 then (some ((4, (S, L7)), 0, 0)) else (if isK L7 c0 12 = true then (bnO (gn_LP_sided c0 c1 a2 S L7) fun p24 => if p24 = true then (if isK L7 c0 12 = true then (bnO (gn_LP_rival c0 c1 a2 S L7) fun p27 => if p27 = true then (some ((6, (S, L7)), 0, 0)) else (some ((0, (S, L7)), 0, 0))) else none) else (some ((5, (S, L7)), 0, 0))) else none)) else none)) else (some ((3, (S, L7)), 0, 0)))) else none) else none) else (some ((1, (S, L)), 0, 0))) else none)
theorem te_LP_reason {sc : SC} {c0 : Nat} {c1 : Nat} {a2 : Int} (ha2 : inR a2) {S : St} {L : List PC} {q : (Int × LZ) × Nat × Nat} (h : gn_LP_reason c0 c1 a2 S L = some q) {mc ms k n : Nat} (hb : Bd k n mc ms q) : GX sc M_LP_reason mc ms 0 [(0, .ref c0), (1, .ref c1), (2, V a2)] [] (wz (S, L)) k n (KXI q.1.1 q.1.2) := by
  unfold gn_LP_reason at h
  refine x_iloadn (pc := 0) (i0 := 2) (j := 2) (dK D_LP_reason_0 0 rfl) rfl rfl ?_
  refine wx_iconst (pc := 1) (dK D_LP_reason_0 1 rfl) ?_
  refine wx_icmp_lt (pc := 2) (t := 13) (dK D_LP_reason_0 2 rfl) rfl ha2 (inRk rfl) (fun hc34 => ?_) (fun hc34 => ?_)
  · replace h := ifP h hc34
    refine wx_iconst (pc := 13) (dK D_LP_reason_0 7 rfl) ?_
    obtain rfl := Option.some.inj h
    exact wk_iretI (pc := 14) (dK D_LP_reason_0 8 rfl) rfl (bdk hb) (bdn hb) ⟨rfl, (inRk rfl), rfl⟩
  · replace h := ifN h hc34
    refine x_iloadn (pc := 5) (i0 := 2) (j := 2) (dK D_LP_reason_0 3 rfl) rfl rfl ?_
    refine x_aloadn (pc := 6) (i0 := 0) (j := 0) (dK D_LP_reason_0 4 rfl) rfl rfl ?_
    refine gdE h ?_
    clear h
    intro hk2 h
    refine bnE h ?_
    clear h
    intro p1 e_p1 h
    refine x_callX (pc := 7) (As := []) (rest := [V a2]) (mc' := 0) (ms' := 0) (dK D_LP_reason_0 5 rfl) Q_LP_111 sx_LP_pages (fitK rfl) (isK_at (Z := (S, L)) (ci := 12) hk2) rfl (leK rfl) (bdk hb) (bdn hb) (tg_LP_pages  e_p1) (kxI' (fun h_p1 => ?_))
    refine wx_icmp_le (pc := 10) (t := 15) (dK D_LP_reason_0 6 rfl) rfl ha2 h_p1 (fun hc33 => ?_) (fun hc33 => ?_)
    · replace h := ifP h hc33
      refine x_aloadn (pc := 15) (i0 := 1) (j := 1) (dK D_LP_reason_0 9 rfl) rfl rfl ?_
      refine bnE h ?_
      clear h
      intro v3 e_v3 h
      refine wx_getI (pc := 16) (ci := 11) (f := 5) e_v3 (dK D_LP_reason_0 10 rfl) q_888 (ltK rfl) (ltK rfl) ?_
      refine x_istoren (pc := 19) (i0 := 3) (ls2 := [(3, V v3), (0, .ref c0), (1, .ref c1), (2, V a2)]) (dK D_LP_reason_0 11 rfl) rfl (ltK rfl) rfl ?_
      refine x_aloadn (pc := 20) (i0 := 1) (j := 2) (dK D_LP_reason_0 12 rfl) rfl rfl ?_
      refine wx_iconst (pc := 21) (dK D_LP_reason_0 13 rfl) ?_
      refine bnE h ?_
      clear h
      intro L4 e_L4 h
      refine wx_put (Z := (S, L)) (pc := 22) (ci := 11) (f := 5) e_L4 (dK D_LP_reason_0 14 rfl) q_888 (ltK rfl) (ltK rfl) rfl okInt ?_
      refine x_aloadn (pc := 25) (i0 := 0) (j := 1) (dK D_LP_reason_0 15 rfl) rfl rfl ?_
      refine x_iloadn (pc := 26) (i0 := 2) (j := 3) (dK D_LP_reason_0 16 rfl) rfl rfl ?_
      refine gdE h ?_
      clear h
      intro hk6 h
      refine bnE h ?_
      clear h
      intro p5 e_p5 h
      refine x_callX (pc := 27) (As := [V a2]) (rest := []) (mc' := 0) (ms' := 0) (dK D_LP_reason_0 17 rfl) Q_LP_114 sx_LP_left (fitK rfl) (isK_at (Z := (S, L4)) (ci := 12) hk6) rfl (leK rfl) (bdk hb) (bdn hb) (tg_LP_left ha2 e_p5) (kxI' (fun h_p5 => ?_))
      refine x_istore (pc := 30) (ls2 := [(4, V p5), (3, V v3), (0, .ref c0), (1, .ref c1), (2, V a2)]) (dK D_LP_reason_0 18 rfl) (ltK rfl) rfl ?_
      refine x_aloadn (pc := 32) (i0 := 1) (j := 3) (dK D_LP_reason_0 19 rfl) rfl rfl ?_
      refine x_iloadn (pc := 33) (i0 := 3) (j := 1) (dK D_LP_reason_0 20 rfl) rfl rfl ?_
      refine bnE h ?_
      clear h
      intro L7 e_L7 h
      refine wx_put (Z := (S, L4)) (pc := 34) (ci := 11) (f := 5) e_L7 (dK D_LP_reason_0 21 rfl) q_888 (ltK rfl) (ltK rfl) rfl okInt ?_
      refine x_aloadn (pc := 37) (i0 := 0) (j := 2) (dK D_LP_reason_0 22 rfl) rfl rfl ?_
      refine x_iloadn (pc := 38) (i0 := 2) (j := 4) (dK D_LP_reason_0 23 rfl) rfl rfl ?_
      refine gdE h ?_
      clear h
      intro hk9 h
      refine bnE h ?_
      clear h
      intro p8 e_p8 h
      refine x_callX (pc := 39) (As := [V a2]) (rest := []) (mc' := 0) (ms' := 0) (dK D_LP_reason_0 24 rfl) Q_LP_117 sx_LP_isShut (fitK rfl) (isK_at (Z := (S, L7)) (ci := 12) hk9) rfl (leK rfl) (bdk hb) (bdn hb) (tg_LP_isShut ha2 e_p8) (kxB' ?_)
      refine wx_ifB_eq (pc := 42) (b := p8) (t := 49) (dK D_LP_reason_0 25 rfl) rfl (fun hc10 => ?_) (fun hc10 => ?_)
      · replace h := ifP h hc10
        refine wx_iconst (pc := 45) (dK D_LP_reason_0 26 rfl) ?_
        refine x_goto (pc := 46) (tgt := 114) (dK D_LP_reason_0 27 rfl) rfl ?_
        obtain rfl := Option.some.inj h
        exact wk_iretI (pc := 114) (dK D_LP_reason_1 11 rfl) rfl (bdk hb) (bdn hb) ⟨rfl, (inRk rfl), rfl⟩
      · replace h := ifN h hc10
        refine x_iload (pc := 49) (j := 0) (dK D_LP_reason_0 28 rfl) rfl ?_
        refine x_aloadn (pc := 51) (i0 := 1) (j := 3) (dK D_LP_reason_0 29 rfl) rfl rfl ?_
        refine bnE h ?_
        clear h
        intro v11 e_v11 h
        refine wx_getI (pc := 52) (ci := 11) (f := 0) e_v11 (dK D_LP_reason_0 30 rfl) q_873 (ltK rfl) (ltK rfl) ?_
        refine wx_icmp_ge (pc := 55) (t := 62) (dK D_LP_reason_0 31 rfl) rfl h_p5 (vI_at e_v11).2 (fun hc32 => ?_) (fun hc32 => ?_)
        · replace h := ifP h hc32
          refine x_aloadn (pc := 62) (i0 := 1) (j := 3) (dK D_LP_reason_0 34 rfl) rfl rfl ?_
          refine bnE h ?_
          clear h
          intro v12 e_v12 h
          refine wx_getI (pc := 63) (ci := 11) (f := 6) e_v12 (dK D_LP_reason_0 35 rfl) q_892 (ltK rfl) (ltK rfl) ?_
          refine wx_if_eq (pc := 66) (t := 86) (dK D_LP_reason_0 36 rfl) rfl (vI_at e_v12).2 (fun hc31 => ?_) (fun hc31 => ?_)
          · replace h := ifP h hc31
            refine x_aloadn (pc := 86) (i0 := 0) (j := 2) (dK D_LP_reason_0 46 rfl) rfl rfl ?_
            refine x_aloadn (pc := 87) (i0 := 1) (j := 3) (dK D_LP_reason_0 47 rfl) rfl rfl ?_
            refine x_iloadn (pc := 88) (i0 := 2) (j := 4) (dK D_LP_reason_0 48 rfl) rfl rfl ?_
            refine gdE h ?_
            clear h
            intro hk14 h
            refine bnE h ?_
            clear h
            intro p13 e_p13 h
            refine x_callX (pc := 89) (As := [.ref c1, V a2]) (rest := []) (mc' := 0) (ms' := 0) (dK D_LP_reason_0 49 rfl) Q_LP_124 sx_LP_sided (fitK rfl) (isK_at (Z := (S, L7)) (ci := 12) hk14) rfl (leK rfl) (bdk hb) (bdn hb) (tg_LP_sided ha2 e_p13) (kxB' ?_)
            refine wx_ifB_ne (pc := 92) (b := p13) (t := 99) (dK D_LP_reason_1 0 rfl) rfl (fun hc15 => ?_) (fun hc15 => ?_)
            · replace h := ifP h hc15
              refine x_aloadn (pc := 99) (i0 := 0) (j := 2) (dK D_LP_reason_1 3 rfl) rfl rfl ?_
              refine x_aloadn (pc := 100) (i0 := 1) (j := 3) (dK D_LP_reason_1 4 rfl) rfl rfl ?_
              refine x_iloadn (pc := 101) (i0 := 2) (j := 4) (dK D_LP_reason_1 5 rfl) rfl rfl ?_
              refine gdE h ?_
              clear h
              intro hk17 h
              refine bnE h ?_
              clear h
              intro p16 e_p16 h
              refine x_callX (pc := 102) (As := [.ref c1, V a2]) (rest := []) (mc' := 0) (ms' := 0) (dK D_LP_reason_1 6 rfl) Q_LP_128 sx_LP_rival (fitK rfl) (isK_at (Z := (S, L7)) (ci := 12) hk17) rfl (leK rfl) (bdk hb) (bdn hb) (tg_LP_rival ha2 e_p16) (kxB' ?_)
              refine wx_ifB_eq (pc := 105) (b := p16) (t := 113) (dK D_LP_reason_1 7 rfl) rfl (fun hc18 => ?_) (fun hc18 => ?_)
              · replace h := ifP h hc18
                refine wx_bipush (pc := 108) (dK D_LP_reason_1 8 rfl) rfl ?_
                refine x_goto (pc := 110) (tgt := 114) (dK D_LP_reason_1 9 rfl) rfl ?_
                obtain rfl := Option.some.inj h
                exact wk_iretI (pc := 114) (dK D_LP_reason_1 11 rfl) rfl (bdk hb) (bdn hb) ⟨rfl, (inRk rfl), rfl⟩
              · replace h := ifN h hc18
                refine wx_iconst (pc := 113) (dK D_LP_reason_1 10 rfl) ?_
                obtain rfl := Option.some.inj h
                exact wk_iretI (pc := 114) (dK D_LP_reason_1 11 rfl) rfl (bdk hb) (bdn hb) ⟨rfl, (inRk rfl), rfl⟩
            · replace h := ifN h hc15
              refine wx_iconst (pc := 95) (dK D_LP_reason_1 1 rfl) ?_
              refine x_goto (pc := 96) (tgt := 114) (dK D_LP_reason_1 2 rfl) rfl ?_
              obtain rfl := Option.some.inj h
              exact wk_iretI (pc := 114) (dK D_LP_reason_1 11 rfl) rfl (bdk hb) (bdn hb) ⟨rfl, (inRk rfl), rfl⟩
          · replace h := ifN h hc31
            refine x_aloadn (pc := 69) (i0 := 0) (j := 2) (dK D_LP_reason_0 37 rfl) rfl rfl ?_
            refine bnE h ?_
            clear h
            intro v19 e_v19 h
            refine wx_getV (pc := 70) (ci := 12) (f := 7) e_v19 (dK D_LP_reason_0 38 rfl) q_781 (ltK rfl) (ltK rfl) (fun hv19 => ?_)
            refine x_aloadn (pc := 73) (i0 := 0) (j := 2) (dK D_LP_reason_0 39 rfl) rfl rfl ?_
            refine x_iloadn (pc := 74) (i0 := 2) (j := 4) (dK D_LP_reason_0 40 rfl) rfl rfl ?_
            refine gdE h ?_
            clear h
            intro hk21 h
            refine bnE h ?_
            clear h
            intro p20 e_p20 h
            refine x_callX (pc := 75) (As := [V a2]) (rest := [v19]) (mc' := 0) (ms' := 0) (dK D_LP_reason_0 41 rfl) Q_LP_79 sx_LP_form (fitK rfl) (isK_at (Z := (S, L7)) (ci := 12) hk21) rfl (by simp only [List.map_cons, List.map_nil, cato hv19]; exact leK rfl) (bdk hb) (bdn hb) (tg_LP_form ha2 e_p20) (kxI' (fun h_p20 => ?_))
            refine rfE h ?_
            clear h
            intro r22 e_r22 h
            rw [e_r22]
            refine bnE h ?_
            clear h
            intro v23 e_v23 h
            refine wx_zald (pc := 78) e_v23 h_p20 (dK D_LP_reason_0 42 rfl) ?_
            refine wx_if_ne (pc := 79) (t := 86) (dK D_LP_reason_0 43 rfl) rfl (vI_at e_v23).2 (fun hc30 => ?_) (fun hc30 => ?_)
            · replace h := ifN h hc30
              refine x_aloadn (pc := 86) (i0 := 0) (j := 2) (dK D_LP_reason_0 46 rfl) rfl rfl ?_
              refine x_aloadn (pc := 87) (i0 := 1) (j := 3) (dK D_LP_reason_0 47 rfl) rfl rfl ?_
              refine x_iloadn (pc := 88) (i0 := 2) (j := 4) (dK D_LP_reason_0 48 rfl) rfl rfl ?_
              refine gdE h ?_
              clear h
              intro hk25 h
              refine bnE h ?_
              clear h
              intro p24 e_p24 h
              refine x_callX (pc := 89) (As := [.ref c1, V a2]) (rest := []) (mc' := 0) (ms' := 0) (dK D_LP_reason_0 49 rfl) Q_LP_124 sx_LP_sided (fitK rfl) (isK_at (Z := (S, L7)) (ci := 12) hk25) rfl (leK rfl) (bdk hb) (bdn hb) (tg_LP_sided ha2 e_p24) (kxB' ?_)
              refine wx_ifB_ne (pc := 92) (b := p24) (t := 99) (dK D_LP_reason_1 0 rfl) rfl (fun hc26 => ?_) (fun hc26 => ?_)
              · replace h := ifP h hc26
                refine x_aloadn (pc := 99) (i0 := 0) (j := 2) (dK D_LP_reason_1 3 rfl) rfl rfl ?_
                refine x_aloadn (pc := 100) (i0 := 1) (j := 3) (dK D_LP_reason_1 4 rfl) rfl rfl ?_
                refine x_iloadn (pc := 101) (i0 := 2) (j := 4) (dK D_LP_reason_1 5 rfl) rfl rfl ?_
                refine gdE h ?_
                clear h
                intro hk28 h
                refine bnE h ?_
                clear h
                intro p27 e_p27 h
                refine x_callX (pc := 102) (As := [.ref c1, V a2]) (rest := []) (mc' := 0) (ms' := 0) (dK D_LP_reason_1 6 rfl) Q_LP_128 sx_LP_rival (fitK rfl) (isK_at (Z := (S, L7)) (ci := 12) hk28) rfl (leK rfl) (bdk hb) (bdn hb) (tg_LP_rival ha2 e_p27) (kxB' ?_)
                refine wx_ifB_eq (pc := 105) (b := p27) (t := 113) (dK D_LP_reason_1 7 rfl) rfl (fun hc29 => ?_) (fun hc29 => ?_)
                · replace h := ifP h hc29
                  refine wx_bipush (pc := 108) (dK D_LP_reason_1 8 rfl) rfl ?_
                  refine x_goto (pc := 110) (tgt := 114) (dK D_LP_reason_1 9 rfl) rfl ?_
                  obtain rfl := Option.some.inj h
                  exact wk_iretI (pc := 114) (dK D_LP_reason_1 11 rfl) rfl (bdk hb) (bdn hb) ⟨rfl, (inRk rfl), rfl⟩
                · replace h := ifN h hc29
                  refine wx_iconst (pc := 113) (dK D_LP_reason_1 10 rfl) ?_
                  obtain rfl := Option.some.inj h
                  exact wk_iretI (pc := 114) (dK D_LP_reason_1 11 rfl) rfl (bdk hb) (bdn hb) ⟨rfl, (inRk rfl), rfl⟩
              · replace h := ifN h hc26
                refine wx_iconst (pc := 95) (dK D_LP_reason_1 1 rfl) ?_
                refine x_goto (pc := 96) (tgt := 114) (dK D_LP_reason_1 2 rfl) rfl ?_
                obtain rfl := Option.some.inj h
                exact wk_iretI (pc := 114) (dK D_LP_reason_1 11 rfl) rfl (bdk hb) (bdn hb) ⟨rfl, (inRk rfl), rfl⟩
            · replace h := ifP h hc30
              refine wx_iconst (pc := 82) (dK D_LP_reason_0 44 rfl) ?_
              refine x_goto (pc := 83) (tgt := 114) (dK D_LP_reason_0 45 rfl) rfl ?_
              obtain rfl := Option.some.inj h
              exact wk_iretI (pc := 114) (dK D_LP_reason_1 11 rfl) rfl (bdk hb) (bdn hb) ⟨rfl, (inRk rfl), rfl⟩
        · replace h := ifN h hc32
          refine wx_iconst (pc := 58) (dK D_LP_reason_0 32 rfl) ?_
          refine x_goto (pc := 59) (tgt := 114) (dK D_LP_reason_0 33 rfl) rfl ?_
          obtain rfl := Option.some.inj h
          exact wk_iretI (pc := 114) (dK D_LP_reason_1 11 rfl) rfl (bdk hb) (bdn hb) ⟨rfl, (inRk rfl), rfl⟩
    · replace h := ifN h hc33
      refine wx_iconst (pc := 13) (dK D_LP_reason_0 7 rfl) ?_
      obtain rfl := Option.some.inj h
      exact wk_iretI (pc := 14) (dK D_LP_reason_0 8 rfl) rfl (bdk hb) (bdn hb) ⟨rfl, (inRk rfl), rfl⟩
theorem tg_LP_reason {sc : SC} {c0 : Nat} {c1 : Nat} {a2 : Int} (ha2 : inR a2) {S : St} {L : List PC} {q : (Int × LZ) × Nat × Nat} (h : gn_LP_reason c0 c1 a2 S L = some q) : EvX sc M_LP_reason [.ref c0, .ref c1, V a2] (wz (S, L)) q.2.1 q.2.2 (KXI q.1.1 q.1.2) := EvX.of pn2_LP rfl (leK rfl) (te_LP_reason ha2 h ⟨Nat.le_of_eq (Nat.zero_add _), Nat.le_of_eq (Nat.zero_add _)⟩)
